def rm_Md_empty : Room := { frames := 1, cells := 0, slots := 0, locals := 20 }
def f_Md_empty_l25 (v_wires : Int32) (v_isOpen : Int32) (v_isEmpty : Int32) (v_there : Int32) (v_halves : Int32) (v_set : Nat → Int32) (x1 : Int32) (v_number : Nat → Int32) : Option ((Int32 × (Nat → Int32)) ⊕ ((Nat → Int32))) :=
  if (15625 : Int32) ≤ x1 then (
    some (.inr (v_number)))
  else (
    if x1 < 0 ∨ 15625 ≤ x1.toNatClampNeg then none else
    zlet (upd v_number x1.toNatClampNeg (0 : Int32)) fun u_3 =>
    zlet (x1 + 1) fun y_4 =>
    some (.inl (y_4, u_3)))
set_option maxRecDepth 100000 in
set_option maxHeartbeats 4000000 in
theorem k_Md_empty_l25 {p : Program} {l : Launch} {e : Env} {s : State} {m : MethodId} {args : Array Value} {below : List Frame} {meth : Method} {c : Code} {D : va_G} {cI cL : ClassId} {h_this h_this_number h_this_set h_this_constant h_this_ruleKind h_this_ruleBit h_this_ruleOther h_this_oldSet h_this_oldNumber h_this_allSets h_this_allNumbers h_this_root : Nat} {v_thrown v_wires v_isOpen v_isEmpty v_came v_there v_halves v_rules v_alone v_halfBits v_allMany o_isEmpty o_there o_halves x1 : Int32} {v_number v_set o_number o_set : Nat → Int32} (C : zC p s m args meth c b_Md_empty 2 R_Md D vwCl [(cI, .int), (cL, .long)] (zA [h_this, h_this_number, h_this_set] s.heap.size)) (hr : meth.sig.returnType = none) {z : (Int32 × (Nat → Int32)) ⊕ ((Nat → Int32))} (hf : f_Md_empty_l25 v_wires v_isOpen v_isEmpty v_there v_halves v_set x1 v_number = some z) (hK : zcase (fun q => ZV p l e rm_Md_empty s m args below meth c 2 D (none) [(h_this, .inr (5, [.int v_thrown, .int v_wires, .int v_isOpen, .int o_isEmpty, .int v_came, .int o_there, .int o_halves, .ref h_this_number, .ref h_this_set, .ref h_this_constant, .int v_rules, .ref h_this_ruleKind, .ref h_this_ruleBit, .ref h_this_ruleOther, .int v_alone, .int v_halfBits, .ref h_this_oldSet, .ref h_this_oldNumber, .ref h_this_allSets, .ref h_this_allNumbers, .int v_allMany, .ref h_this_root])), (h_this_number, .inl (cI, 15625, .inl o_number)), (h_this_set, .inl (cI, 6, .inl o_set))] [h_this, h_this_number, h_this_set] [(h_this, .inr (5, [.int v_thrown, .int v_wires, .int v_isOpen, .int v_isEmpty, .int v_came, .int v_there, .int v_halves, .ref h_this_number, .ref h_this_set, .ref h_this_constant, .int v_rules, .ref h_this_ruleKind, .ref h_this_ruleBit, .ref h_this_ruleOther, .int v_alone, .int v_halfBits, .ref h_this_oldSet, .ref h_this_oldNumber, .ref h_this_allSets, .ref h_this_allNumbers, .int v_allMany, .ref h_this_root])), (h_this_number, .inl (cI, 15625, .inl q.2)), (h_this_set, .inl (cI, 6, .inl v_set))] 25 [(0, .ref h_this), (1, .int q.1)] []) (fun q => ZV p l e rm_Md_empty s m args below meth c 2 D (none) [(h_this, .inr (5, [.int v_thrown, .int v_wires, .int v_isOpen, .int o_isEmpty, .int v_came, .int o_there, .int o_halves, .ref h_this_number, .ref h_this_set, .ref h_this_constant, .int v_rules, .ref h_this_ruleKind, .ref h_this_ruleBit, .ref h_this_ruleOther, .int v_alone, .int v_halfBits, .ref h_this_oldSet, .ref h_this_oldNumber, .ref h_this_allSets, .ref h_this_allNumbers, .int v_allMany, .ref h_this_root])), (h_this_number, .inl (cI, 15625, .inl o_number)), (h_this_set, .inl (cI, 6, .inl o_set))] [h_this, h_this_number, h_this_set] [(h_this, .inr (5, [.int v_thrown, .int v_wires, .int v_isOpen, .int v_isEmpty, .int v_came, .int v_there, .int v_halves, .ref h_this_number, .ref h_this_set, .ref h_this_constant, .int v_rules, .ref h_this_ruleKind, .ref h_this_ruleBit, .ref h_this_ruleOther, .int v_alone, .int v_halfBits, .ref h_this_oldSet, .ref h_this_oldNumber, .ref h_this_allSets, .ref h_this_allNumbers, .int v_allMany, .ref h_this_root])), (h_this_number, .inl (cI, 15625, .inl q)), (h_this_set, .inl (cI, 6, .inl v_set))] 45 [(0, .ref h_this)] []) z) : ZV p l e rm_Md_empty s m args below meth c 2 D (none) [(h_this, .inr (5, [.int v_thrown, .int v_wires, .int v_isOpen, .int o_isEmpty, .int v_came, .int o_there, .int o_halves, .ref h_this_number, .ref h_this_set, .ref h_this_constant, .int v_rules, .ref h_this_ruleKind, .ref h_this_ruleBit, .ref h_this_ruleOther, .int v_alone, .int v_halfBits, .ref h_this_oldSet, .ref h_this_oldNumber, .ref h_this_allSets, .ref h_this_allNumbers, .int v_allMany, .ref h_this_root])), (h_this_number, .inl (cI, 15625, .inl o_number)), (h_this_set, .inl (cI, 6, .inl o_set))] [h_this, h_this_number, h_this_set] [(h_this, .inr (5, [.int v_thrown, .int v_wires, .int v_isOpen, .int v_isEmpty, .int v_came, .int v_there, .int v_halves, .ref h_this_number, .ref h_this_set, .ref h_this_constant, .int v_rules, .ref h_this_ruleKind, .ref h_this_ruleBit, .ref h_this_ruleOther, .int v_alone, .int v_halfBits, .ref h_this_oldSet, .ref h_this_oldNumber, .ref h_this_allSets, .ref h_this_allNumbers, .int v_allMany, .ref h_this_root])), (h_this_number, .inl (cI, 15625, .inl v_number)), (h_this_set, .inl (cI, 6, .inl v_set))] 25 [(0, .ref h_this), (1, .int x1)] [] := by
  unfold f_Md_empty_l25 at hf
  refine z_iload_n C d_Md_empty_25 rfl 1 rfl ?_
  refine z_sipush (v := 15625) C d_Md_empty_26 (by decide) ?_
  refine z_icmp_ge (tgt := 45) C d_Md_empty_29 (by decide) (fun c_1 => ?_) (fun c_1 => ?_)
  · have hf := zif_pos c_1 hf
    refine z_lv [0] rfl ?_
    cases hf
    exact hK
  · have hf := zif_neg c_1 hf
    refine z_aload_n C d_Md_empty_32 rfl 0 rfl ?_
    refine z_get C iw_Md 0 rfl rfl 7 (by decide) zw_505 rfl d_Md_empty_33 ?_
    refine z_iload_n C d_Md_empty_36 rfl 1 rfl ?_
    refine z_iconst (v := 0) C d_Md_empty_37 (by decide) ?_
    obtain ⟨g_2, hf⟩ := zguard hf
    obtain ⟨u_3, eu_3⟩ : ∃ u : Nat → Int32, u = upd v_number x1.toNatClampNeg (0 : Int32) := ⟨_, rfl⟩
    have hf := zlet_at eu_3 hf
    refine z_iast (ws' := [(h_this, .inr (5, [.int v_thrown, .int v_wires, .int v_isOpen, .int v_isEmpty, .int v_came, .int v_there, .int v_halves, .ref h_this_number, .ref h_this_set, .ref h_this_constant, .int v_rules, .ref h_this_ruleKind, .ref h_this_ruleBit, .ref h_this_ruleOther, .int v_alone, .int v_halfBits, .ref h_this_oldSet, .ref h_this_oldNumber, .ref h_this_allSets, .ref h_this_allNumbers, .int v_allMany, .ref h_this_root])), (h_this_number, .inl (cI, 15625, .inl u_3)), (h_this_set, .inl (cI, 6, .inl v_set))]) C 1 0 rfl rfl g_2 d_Md_empty_38 (by rw [eu_3]; rfl) ?_
    obtain ⟨y_4, ey_4⟩ : ∃ y : Int32, y = x1 + 1 := ⟨_, rfl⟩
    have hf := zlet_at ey_4 hf
    refine z_iinc (v := y_4) (lv' := [(1, .int y_4), (0, .ref h_this)]) C d_Md_empty_39 (k := 1) rfl (by rw [ey_4]; rfl) (by decide) rfl ?_
    refine z_goto (tgt := 25) C d_Md_empty_42 (by decide) ?_
    refine z_lv [1, 0] rfl ?_
    cases hf
    exact hK
theorem k_Md_empty_l25_run {p : Program} {l : Launch} {e : Env} {s : State} {m : MethodId} {args : Array Value} {below : List Frame} {meth : Method} {c : Code} {D : va_G} {cI cL : ClassId} {h_this h_this_number h_this_set h_this_constant h_this_ruleKind h_this_ruleBit h_this_ruleOther h_this_oldSet h_this_oldNumber h_this_allSets h_this_allNumbers h_this_root : Nat} {v_thrown v_wires v_isOpen v_isEmpty v_came v_there v_halves v_rules v_alone v_halfBits v_allMany o_isEmpty o_there o_halves x1 : Int32} {v_number v_set o_number o_set : Nat → Int32} (C : zC p s m args meth c b_Md_empty 2 R_Md D vwCl [(cI, .int), (cL, .long)] (zA [h_this, h_this_number, h_this_set] s.heap.size)) (hr : meth.sig.returnType = none) {o0 : Nat → Int32} (hf : zloop (fun q => f_Md_empty_l25 v_wires v_isOpen v_isEmpty v_there v_halves v_set q.1 q.2) zF (x1, v_number) = some o0) (hK : ZV p l e rm_Md_empty s m args below meth c 2 D (none) [(h_this, .inr (5, [.int v_thrown, .int v_wires, .int v_isOpen, .int o_isEmpty, .int v_came, .int o_there, .int o_halves, .ref h_this_number, .ref h_this_set, .ref h_this_constant, .int v_rules, .ref h_this_ruleKind, .ref h_this_ruleBit, .ref h_this_ruleOther, .int v_alone, .int v_halfBits, .ref h_this_oldSet, .ref h_this_oldNumber, .ref h_this_allSets, .ref h_this_allNumbers, .int v_allMany, .ref h_this_root])), (h_this_number, .inl (cI, 15625, .inl o_number)), (h_this_set, .inl (cI, 6, .inl o_set))] [h_this, h_this_number, h_this_set] [(h_this, .inr (5, [.int v_thrown, .int v_wires, .int v_isOpen, .int v_isEmpty, .int v_came, .int v_there, .int v_halves, .ref h_this_number, .ref h_this_set, .ref h_this_constant, .int v_rules, .ref h_this_ruleKind, .ref h_this_ruleBit, .ref h_this_ruleOther, .int v_alone, .int v_halfBits, .ref h_this_oldSet, .ref h_this_oldNumber, .ref h_this_allSets, .ref h_this_allNumbers, .int v_allMany, .ref h_this_root])), (h_this_number, .inl (cI, 15625, .inl o0)), (h_this_set, .inl (cI, 6, .inl v_set))] 45 [(0, .ref h_this)] []) : ZV p l e rm_Md_empty s m args below meth c 2 D (none) [(h_this, .inr (5, [.int v_thrown, .int v_wires, .int v_isOpen, .int o_isEmpty, .int v_came, .int o_there, .int o_halves, .ref h_this_number, .ref h_this_set, .ref h_this_constant, .int v_rules, .ref h_this_ruleKind, .ref h_this_ruleBit, .ref h_this_ruleOther, .int v_alone, .int v_halfBits, .ref h_this_oldSet, .ref h_this_oldNumber, .ref h_this_allSets, .ref h_this_allNumbers, .int v_allMany, .ref h_this_root])), (h_this_number, .inl (cI, 15625, .inl o_number)), (h_this_set, .inl (cI, 6, .inl o_set))] [h_this, h_this_number, h_this_set] [(h_this, .inr (5, [.int v_thrown, .int v_wires, .int v_isOpen, .int v_isEmpty, .int v_came, .int v_there, .int v_halves, .ref h_this_number, .ref h_this_set, .ref h_this_constant, .int v_rules, .ref h_this_ruleKind, .ref h_this_ruleBit, .ref h_this_ruleOther, .int v_alone, .int v_halfBits, .ref h_this_oldSet, .ref h_this_oldNumber, .ref h_this_allSets, .ref h_this_allNumbers, .int v_allMany, .ref h_this_root])), (h_this_number, .inl (cI, 15625, .inl v_number)), (h_this_set, .inl (cI, 6, .inl v_set))] 25 [(0, .ref h_this), (1, .int x1)] [] :=
  zloop_run (P := fun q => ZV p l e rm_Md_empty s m args below meth c 2 D (none) [(h_this, .inr (5, [.int v_thrown, .int v_wires, .int v_isOpen, .int o_isEmpty, .int v_came, .int o_there, .int o_halves, .ref h_this_number, .ref h_this_set, .ref h_this_constant, .int v_rules, .ref h_this_ruleKind, .ref h_this_ruleBit, .ref h_this_ruleOther, .int v_alone, .int v_halfBits, .ref h_this_oldSet, .ref h_this_oldNumber, .ref h_this_allSets, .ref h_this_allNumbers, .int v_allMany, .ref h_this_root])), (h_this_number, .inl (cI, 15625, .inl o_number)), (h_this_set, .inl (cI, 6, .inl o_set))] [h_this, h_this_number, h_this_set] [(h_this, .inr (5, [.int v_thrown, .int v_wires, .int v_isOpen, .int v_isEmpty, .int v_came, .int v_there, .int v_halves, .ref h_this_number, .ref h_this_set, .ref h_this_constant, .int v_rules, .ref h_this_ruleKind, .ref h_this_ruleBit, .ref h_this_ruleOther, .int v_alone, .int v_halfBits, .ref h_this_oldSet, .ref h_this_oldNumber, .ref h_this_allSets, .ref h_this_allNumbers, .int v_allMany, .ref h_this_root])), (h_this_number, .inl (cI, 15625, .inl q.2)), (h_this_set, .inl (cI, 6, .inl v_set))] 25 [(0, .ref h_this), (1, .int q.1)] []) (K := (fun q => ZV p l e rm_Md_empty s m args below meth c 2 D (none) [(h_this, .inr (5, [.int v_thrown, .int v_wires, .int v_isOpen, .int o_isEmpty, .int v_came, .int o_there, .int o_halves, .ref h_this_number, .ref h_this_set, .ref h_this_constant, .int v_rules, .ref h_this_ruleKind, .ref h_this_ruleBit, .ref h_this_ruleOther, .int v_alone, .int v_halfBits, .ref h_this_oldSet, .ref h_this_oldNumber, .ref h_this_allSets, .ref h_this_allNumbers, .int v_allMany, .ref h_this_root])), (h_this_number, .inl (cI, 15625, .inl o_number)), (h_this_set, .inl (cI, 6, .inl o_set))] [h_this, h_this_number, h_this_set] [(h_this, .inr (5, [.int v_thrown, .int v_wires, .int v_isOpen, .int v_isEmpty, .int v_came, .int v_there, .int v_halves, .ref h_this_number, .ref h_this_set, .ref h_this_constant, .int v_rules, .ref h_this_ruleKind, .ref h_this_ruleBit, .ref h_this_ruleOther, .int v_alone, .int v_halfBits, .ref h_this_oldSet, .ref h_this_oldNumber, .ref h_this_allSets, .ref h_this_allNumbers, .int v_allMany, .ref h_this_root])), (h_this_number, .inl (cI, 15625, .inl q)), (h_this_set, .inl (cI, 6, .inl v_set))] 45 [(0, .ref h_this)] [])) (fun q z hz hK => k_Md_empty_l25 C hr hz hK) zF _ (o0) hf hK
def f_Md_empty_l47 (v_wires : Int32) (v_isOpen : Int32) (v_isEmpty : Int32) (v_there : Int32) (v_halves : Int32) (v_number : Nat → Int32) (x1 : Int32) (v_set : Nat → Int32) : Option ((Int32 × (Nat → Int32)) ⊕ ((Nat → Int32))) :=
  if v_wires ≤ x1 then (
    some (.inr (v_set)))
  else (
    if x1 < 0 ∨ 6 ≤ x1.toNatClampNeg then none else
    if x1 < 0 ∨ 6 ≤ x1.toNatClampNeg then none else
    zlet (upd v_set x1.toNatClampNeg ((v_set x1.toNatClampNeg) &&& (f_Md_inputs v_wires v_isOpen))) fun u_5 =>
    zlet (x1 + 1) fun y_6 =>
    some (.inl (y_6, u_5)))
set_option maxRecDepth 100000 in
set_option maxHeartbeats 4000000 in
theorem k_Md_empty_l47 {p : Program} {l : Launch} {e : Env} {s : State} {m : MethodId} {args : Array Value} {below : List Frame} {meth : Method} {c : Code} {D : va_G} {cI cL : ClassId} {h_this h_this_number h_this_set h_this_constant h_this_ruleKind h_this_ruleBit h_this_ruleOther h_this_oldSet h_this_oldNumber h_this_allSets h_this_allNumbers h_this_root : Nat} {v_thrown v_wires v_isOpen v_isEmpty v_came v_there v_halves v_rules v_alone v_halfBits v_allMany o_isEmpty o_there o_halves x1 : Int32} {v_number v_set o_number o_set : Nat → Int32} (C : zC p s m args meth c b_Md_empty 2 R_Md D vwCl [(cI, .int), (cL, .long)] (zA [h_this, h_this_number, h_this_set] s.heap.size)) (hr : meth.sig.returnType = none) {z : (Int32 × (Nat → Int32)) ⊕ ((Nat → Int32))} (hf : f_Md_empty_l47 v_wires v_isOpen v_isEmpty v_there v_halves v_number x1 v_set = some z) (hK : zcase (fun q => ZV p l e rm_Md_empty s m args below meth c 2 D (none) [(h_this, .inr (5, [.int v_thrown, .int v_wires, .int v_isOpen, .int o_isEmpty, .int v_came, .int o_there, .int o_halves, .ref h_this_number, .ref h_this_set, .ref h_this_constant, .int v_rules, .ref h_this_ruleKind, .ref h_this_ruleBit, .ref h_this_ruleOther, .int v_alone, .int v_halfBits, .ref h_this_oldSet, .ref h_this_oldNumber, .ref h_this_allSets, .ref h_this_allNumbers, .int v_allMany, .ref h_this_root])), (h_this_number, .inl (cI, 15625, .inl o_number)), (h_this_set, .inl (cI, 6, .inl o_set))] [h_this, h_this_number, h_this_set] [(h_this, .inr (5, [.int v_thrown, .int v_wires, .int v_isOpen, .int v_isEmpty, .int v_came, .int v_there, .int v_halves, .ref h_this_number, .ref h_this_set, .ref h_this_constant, .int v_rules, .ref h_this_ruleKind, .ref h_this_ruleBit, .ref h_this_ruleOther, .int v_alone, .int v_halfBits, .ref h_this_oldSet, .ref h_this_oldNumber, .ref h_this_allSets, .ref h_this_allNumbers, .int v_allMany, .ref h_this_root])), (h_this_number, .inl (cI, 15625, .inl v_number)), (h_this_set, .inl (cI, 6, .inl q.2))] 47 [(0, .ref h_this), (1, .int q.1)] []) (fun q => ZV p l e rm_Md_empty s m args below meth c 2 D (none) [(h_this, .inr (5, [.int v_thrown, .int v_wires, .int v_isOpen, .int o_isEmpty, .int v_came, .int o_there, .int o_halves, .ref h_this_number, .ref h_this_set, .ref h_this_constant, .int v_rules, .ref h_this_ruleKind, .ref h_this_ruleBit, .ref h_this_ruleOther, .int v_alone, .int v_halfBits, .ref h_this_oldSet, .ref h_this_oldNumber, .ref h_this_allSets, .ref h_this_allNumbers, .int v_allMany, .ref h_this_root])), (h_this_number, .inl (cI, 15625, .inl o_number)), (h_this_set, .inl (cI, 6, .inl o_set))] [h_this, h_this_number, h_this_set] [(h_this, .inr (5, [.int v_thrown, .int v_wires, .int v_isOpen, .int v_isEmpty, .int v_came, .int v_there, .int v_halves, .ref h_this_number, .ref h_this_set, .ref h_this_constant, .int v_rules, .ref h_this_ruleKind, .ref h_this_ruleBit, .ref h_this_ruleOther, .int v_alone, .int v_halfBits, .ref h_this_oldSet, .ref h_this_oldNumber, .ref h_this_allSets, .ref h_this_allNumbers, .int v_allMany, .ref h_this_root])), (h_this_number, .inl (cI, 15625, .inl v_number)), (h_this_set, .inl (cI, 6, .inl q))] 74 [] []) z) : ZV p l e rm_Md_empty s m args below meth c 2 D (none) [(h_this, .inr (5, [.int v_thrown, .int v_wires, .int v_isOpen, .int o_isEmpty, .int v_came, .int o_there, .int o_halves, .ref h_this_number, .ref h_this_set, .ref h_this_constant, .int v_rules, .ref h_this_ruleKind, .ref h_this_ruleBit, .ref h_this_ruleOther, .int v_alone, .int v_halfBits, .ref h_this_oldSet, .ref h_this_oldNumber, .ref h_this_allSets, .ref h_this_allNumbers, .int v_allMany, .ref h_this_root])), (h_this_number, .inl (cI, 15625, .inl o_number)), (h_this_set, .inl (cI, 6, .inl o_set))] [h_this, h_this_number, h_this_set] [(h_this, .inr (5, [.int v_thrown, .int v_wires, .int v_isOpen, .int v_isEmpty, .int v_came, .int v_there, .int v_halves, .ref h_this_number, .ref h_this_set, .ref h_this_constant, .int v_rules, .ref h_this_ruleKind, .ref h_this_ruleBit, .ref h_this_ruleOther, .int v_alone, .int v_halfBits, .ref h_this_oldSet, .ref h_this_oldNumber, .ref h_this_allSets, .ref h_this_allNumbers, .int v_allMany, .ref h_this_root])), (h_this_number, .inl (cI, 15625, .inl v_number)), (h_this_set, .inl (cI, 6, .inl v_set))] 47 [(0, .ref h_this), (1, .int x1)] [] := by
  unfold f_Md_empty_l47 at hf
  refine z_iload_n C d_Md_empty_47 rfl 1 rfl ?_
  refine z_aload_n C d_Md_empty_48 rfl 0 rfl ?_
  refine z_get C iw_Md 0 rfl rfl 1 (by decide) zw_499 rfl d_Md_empty_49 ?_
  refine z_icmp_ge (tgt := 74) C d_Md_empty_52 (by decide) (fun c_1 => ?_) (fun c_1 => ?_)
  · have hf := zif_pos c_1 hf
    refine z_lv [] rfl ?_
    cases hf
    exact hK
  · have hf := zif_neg c_1 hf
    refine z_aload_n C d_Md_empty_55 rfl 0 rfl ?_
    refine z_get C iw_Md 0 rfl rfl 8 (by decide) zw_506 rfl d_Md_empty_56 ?_
    refine z_iload_n C d_Md_empty_59 rfl 1 rfl ?_
    refine z_dup2_11 C d_Md_empty_60 rfl rfl ?_
    obtain ⟨g_2, hf⟩ := zguard hf
    refine z_iald C 2 0 rfl rfl g_2 d_Md_empty_61 ?_
    refine z_aload_n C d_Md_empty_62 rfl 0 rfl ?_
    refine z_callV (As := []) (rest := [.int (v_set x1.toNatClampNeg), .int x1, .ref h_this_set]) (ws' := [(h_this, .inr (5, [.int v_thrown, .int v_wires, .int v_isOpen, .int v_isEmpty, .int v_came, .int v_there, .int v_halves, .ref h_this_number, .ref h_this_set, .ref h_this_constant, .int v_rules, .ref h_this_ruleKind, .ref h_this_ruleBit, .ref h_this_ruleOther, .int v_alone, .int v_halfBits, .ref h_this_oldSet, .ref h_this_oldNumber, .ref h_this_allSets, .ref h_this_allNumbers, .int v_allMany, .ref h_this_root])), (h_this_number, .inl (cI, 15625, .inl v_number)), (h_this_set, .inl (cI, 6, .inl v_set))]) C (c_Md_inputs rfl) mi_Md_inputs zw_638 (by decide) 0 rfl rfl [0] (by decide) rfl rfl rfl rfl rfl (by decide) ⟨Nat.zero_le _, Nat.zero_le _⟩ d_Md_empty_63 ?_
    refine z_iand C d_Md_empty_66 ?_
    obtain ⟨g_4, hf⟩ := zguard hf
    obtain ⟨u_5, eu_5⟩ : ∃ u : Nat → Int32, u = upd v_set x1.toNatClampNeg ((v_set x1.toNatClampNeg) &&& (f_Md_inputs v_wires v_isOpen)) := ⟨_, rfl⟩
    have hf := zlet_at eu_5 hf
    refine z_iast (ws' := [(h_this, .inr (5, [.int v_thrown, .int v_wires, .int v_isOpen, .int v_isEmpty, .int v_came, .int v_there, .int v_halves, .ref h_this_number, .ref h_this_set, .ref h_this_constant, .int v_rules, .ref h_this_ruleKind, .ref h_this_ruleBit, .ref h_this_ruleOther, .int v_alone, .int v_halfBits, .ref h_this_oldSet, .ref h_this_oldNumber, .ref h_this_allSets, .ref h_this_allNumbers, .int v_allMany, .ref h_this_root])), (h_this_number, .inl (cI, 15625, .inl v_number)), (h_this_set, .inl (cI, 6, .inl u_5))]) C 2 0 rfl rfl g_4 d_Md_empty_67 (by rw [eu_5]; rfl) ?_
    obtain ⟨y_6, ey_6⟩ : ∃ y : Int32, y = x1 + 1 := ⟨_, rfl⟩
    have hf := zlet_at ey_6 hf
    refine z_iinc (v := y_6) (lv' := [(1, .int y_6), (0, .ref h_this)]) C d_Md_empty_68 (k := 1) rfl (by rw [ey_6]; rfl) (by decide) rfl ?_
    refine z_goto (tgt := 47) C d_Md_empty_71 (by decide) ?_
    refine z_lv [1, 0] rfl ?_
    cases hf
    exact hK
theorem k_Md_empty_l47_run {p : Program} {l : Launch} {e : Env} {s : State} {m : MethodId} {args : Array Value} {below : List Frame} {meth : Method} {c : Code} {D : va_G} {cI cL : ClassId} {h_this h_this_number h_this_set h_this_constant h_this_ruleKind h_this_ruleBit h_this_ruleOther h_this_oldSet h_this_oldNumber h_this_allSets h_this_allNumbers h_this_root : Nat} {v_thrown v_wires v_isOpen v_isEmpty v_came v_there v_halves v_rules v_alone v_halfBits v_allMany o_isEmpty o_there o_halves x1 : Int32} {v_number v_set o_number o_set : Nat → Int32} (C : zC p s m args meth c b_Md_empty 2 R_Md D vwCl [(cI, .int), (cL, .long)] (zA [h_this, h_this_number, h_this_set] s.heap.size)) (hr : meth.sig.returnType = none) {o0 : Nat → Int32} (hf : zloop (fun q => f_Md_empty_l47 v_wires v_isOpen v_isEmpty v_there v_halves v_number q.1 q.2) zF (x1, v_set) = some o0) (hK : ZV p l e rm_Md_empty s m args below meth c 2 D (none) [(h_this, .inr (5, [.int v_thrown, .int v_wires, .int v_isOpen, .int o_isEmpty, .int v_came, .int o_there, .int o_halves, .ref h_this_number, .ref h_this_set, .ref h_this_constant, .int v_rules, .ref h_this_ruleKind, .ref h_this_ruleBit, .ref h_this_ruleOther, .int v_alone, .int v_halfBits, .ref h_this_oldSet, .ref h_this_oldNumber, .ref h_this_allSets, .ref h_this_allNumbers, .int v_allMany, .ref h_this_root])), (h_this_number, .inl (cI, 15625, .inl o_number)), (h_this_set, .inl (cI, 6, .inl o_set))] [h_this, h_this_number, h_this_set] [(h_this, .inr (5, [.int v_thrown, .int v_wires, .int v_isOpen, .int v_isEmpty, .int v_came, .int v_there, .int v_halves, .ref h_this_number, .ref h_this_set, .ref h_this_constant, .int v_rules, .ref h_this_ruleKind, .ref h_this_ruleBit, .ref h_this_ruleOther, .int v_alone, .int v_halfBits, .ref h_this_oldSet, .ref h_this_oldNumber, .ref h_this_allSets, .ref h_this_allNumbers, .int v_allMany, .ref h_this_root])), (h_this_number, .inl (cI, 15625, .inl v_number)), (h_this_set, .inl (cI, 6, .inl o0))] 74 [] []) : ZV p l e rm_Md_empty s m args below meth c 2 D (none) [(h_this, .inr (5, [.int v_thrown, .int v_wires, .int v_isOpen, .int o_isEmpty, .int v_came, .int o_there, .int o_halves, .ref h_this_number, .ref h_this_set, .ref h_this_constant, .int v_rules, .ref h_this_ruleKind, .ref h_this_ruleBit, .ref h_this_ruleOther, .int v_alone, .int v_halfBits, .ref h_this_oldSet, .ref h_this_oldNumber, .ref h_this_allSets, .ref h_this_allNumbers, .int v_allMany, .ref h_this_root])), (h_this_number, .inl (cI, 15625, .inl o_number)), (h_this_set, .inl (cI, 6, .inl o_set))] [h_this, h_this_number, h_this_set] [(h_this, .inr (5, [.int v_thrown, .int v_wires, .int v_isOpen, .int v_isEmpty, .int v_came, .int v_there, .int v_halves, .ref h_this_number, .ref h_this_set, .ref h_this_constant, .int v_rules, .ref h_this_ruleKind, .ref h_this_ruleBit, .ref h_this_ruleOther, .int v_alone, .int v_halfBits, .ref h_this_oldSet, .ref h_this_oldNumber, .ref h_this_allSets, .ref h_this_allNumbers, .int v_allMany, .ref h_this_root])), (h_this_number, .inl (cI, 15625, .inl v_number)), (h_this_set, .inl (cI, 6, .inl v_set))] 47 [(0, .ref h_this), (1, .int x1)] [] :=
  zloop_run (P := fun q => ZV p l e rm_Md_empty s m args below meth c 2 D (none) [(h_this, .inr (5, [.int v_thrown, .int v_wires, .int v_isOpen, .int o_isEmpty, .int v_came, .int o_there, .int o_halves, .ref h_this_number, .ref h_this_set, .ref h_this_constant, .int v_rules, .ref h_this_ruleKind, .ref h_this_ruleBit, .ref h_this_ruleOther, .int v_alone, .int v_halfBits, .ref h_this_oldSet, .ref h_this_oldNumber, .ref h_this_allSets, .ref h_this_allNumbers, .int v_allMany, .ref h_this_root])), (h_this_number, .inl (cI, 15625, .inl o_number)), (h_this_set, .inl (cI, 6, .inl o_set))] [h_this, h_this_number, h_this_set] [(h_this, .inr (5, [.int v_thrown, .int v_wires, .int v_isOpen, .int v_isEmpty, .int v_came, .int v_there, .int v_halves, .ref h_this_number, .ref h_this_set, .ref h_this_constant, .int v_rules, .ref h_this_ruleKind, .ref h_this_ruleBit, .ref h_this_ruleOther, .int v_alone, .int v_halfBits, .ref h_this_oldSet, .ref h_this_oldNumber, .ref h_this_allSets, .ref h_this_allNumbers, .int v_allMany, .ref h_this_root])), (h_this_number, .inl (cI, 15625, .inl v_number)), (h_this_set, .inl (cI, 6, .inl q.2))] 47 [(0, .ref h_this), (1, .int q.1)] []) (K := (fun q => ZV p l e rm_Md_empty s m args below meth c 2 D (none) [(h_this, .inr (5, [.int v_thrown, .int v_wires, .int v_isOpen, .int o_isEmpty, .int v_came, .int o_there, .int o_halves, .ref h_this_number, .ref h_this_set, .ref h_this_constant, .int v_rules, .ref h_this_ruleKind, .ref h_this_ruleBit, .ref h_this_ruleOther, .int v_alone, .int v_halfBits, .ref h_this_oldSet, .ref h_this_oldNumber, .ref h_this_allSets, .ref h_this_allNumbers, .int v_allMany, .ref h_this_root])), (h_this_number, .inl (cI, 15625, .inl o_number)), (h_this_set, .inl (cI, 6, .inl o_set))] [h_this, h_this_number, h_this_set] [(h_this, .inr (5, [.int v_thrown, .int v_wires, .int v_isOpen, .int v_isEmpty, .int v_came, .int v_there, .int v_halves, .ref h_this_number, .ref h_this_set, .ref h_this_constant, .int v_rules, .ref h_this_ruleKind, .ref h_this_ruleBit, .ref h_this_ruleOther, .int v_alone, .int v_halfBits, .ref h_this_oldSet, .ref h_this_oldNumber, .ref h_this_allSets, .ref h_this_allNumbers, .int v_allMany, .ref h_this_root])), (h_this_number, .inl (cI, 15625, .inl v_number)), (h_this_set, .inl (cI, 6, .inl q))] 74 [] [])) (fun q z hz hK => k_Md_empty_l47 C hr hz hK) zF _ (o0) hf hK
/-- PathSumsModel.empty()V -/
def f_Md_empty (v_wires : Int32) (v_isOpen : Int32) (v_isEmpty : Int32) (v_there : Int32) (v_halves : Int32) (v_number : Nat → Int32) (v_set : Nat → Int32) : Option (Int32 × Int32 × Int32 × (Nat → Int32) × (Nat → Int32)) :=
  zlet (v_there &&& (f_Md_inputs v_wires v_isOpen)) fun y_2 =>
  zb1 (zloop (fun q => f_Md_empty_l25 v_wires v_isOpen (1 : Int32) y_2 (0 : Int32) v_set q.1 q.2) zF ((0 : Int32), v_number)) fun q_3 =>
  zb1 (zloop (fun q => f_Md_empty_l47 v_wires v_isOpen (1 : Int32) y_2 (0 : Int32) q_3 q.1 q.2) zF ((0 : Int32), v_set)) fun q_5 =>
  some ((1 : Int32), y_2, (0 : Int32), q_3, q_5)
set_option maxRecDepth 100000 in
set_option maxHeartbeats 4000000 in
theorem k_Md_empty {p : Program} {l : Launch} {e : Env} {s : State} {m : MethodId} {args : Array Value} {below : List Frame} {meth : Method} {c : Code} {D : va_G} {cI cL : ClassId} {h_this h_this_number h_this_set h_this_constant h_this_ruleKind h_this_ruleBit h_this_ruleOther h_this_oldSet h_this_oldNumber h_this_allSets h_this_allNumbers h_this_root : Nat} {v_thrown v_wires v_isOpen v_isEmpty v_came v_there v_halves v_rules v_alone v_halfBits v_allMany o_isEmpty o_there o_halves : Int32} {v_number v_set o_number o_set : Nat → Int32} (C : zC p s m args meth c b_Md_empty 2 R_Md D vwCl [(cI, .int), (cL, .long)] (zA [h_this, h_this_number, h_this_set] s.heap.size)) (hr : meth.sig.returnType = none) (hf : f_Md_empty v_wires v_isOpen v_isEmpty v_there v_halves v_number v_set = some (o_isEmpty, o_there, o_halves, o_number, o_set)) : ZV p l e rm_Md_empty s m args below meth c 2 D (none) [(h_this, .inr (5, [.int v_thrown, .int v_wires, .int v_isOpen, .int o_isEmpty, .int v_came, .int o_there, .int o_halves, .ref h_this_number, .ref h_this_set, .ref h_this_constant, .int v_rules, .ref h_this_ruleKind, .ref h_this_ruleBit, .ref h_this_ruleOther, .int v_alone, .int v_halfBits, .ref h_this_oldSet, .ref h_this_oldNumber, .ref h_this_allSets, .ref h_this_allNumbers, .int v_allMany, .ref h_this_root])), (h_this_number, .inl (cI, 15625, .inl o_number)), (h_this_set, .inl (cI, 6, .inl o_set))] [h_this, h_this_number, h_this_set] [(h_this, .inr (5, [.int v_thrown, .int v_wires, .int v_isOpen, .int v_isEmpty, .int v_came, .int v_there, .int v_halves, .ref h_this_number, .ref h_this_set, .ref h_this_constant, .int v_rules, .ref h_this_ruleKind, .ref h_this_ruleBit, .ref h_this_ruleOther, .int v_alone, .int v_halfBits, .ref h_this_oldSet, .ref h_this_oldNumber, .ref h_this_allSets, .ref h_this_allNumbers, .int v_allMany, .ref h_this_root])), (h_this_number, .inl (cI, 15625, .inl v_number)), (h_this_set, .inl (cI, 6, .inl v_set))] 0 [(0, .ref h_this)] [] := by
  unfold f_Md_empty at hf
  refine z_aload_n C d_Md_empty_0 rfl 0 rfl ?_
  refine z_iconst (v := 1) C d_Md_empty_1 (by decide) ?_
  refine z_put (ws' := [(h_this, .inr (5, [.int v_thrown, .int v_wires, .int v_isOpen, .int (1 : Int32), .int v_came, .int v_there, .int v_halves, .ref h_this_number, .ref h_this_set, .ref h_this_constant, .int v_rules, .ref h_this_ruleKind, .ref h_this_ruleBit, .ref h_this_ruleOther, .int v_alone, .int v_halfBits, .ref h_this_oldSet, .ref h_this_oldNumber, .ref h_this_allSets, .ref h_this_allNumbers, .int v_allMany, .ref h_this_root])), (h_this_number, .inl (cI, 15625, .inl v_number)), (h_this_set, .inl (cI, 6, .inl v_set))]) C iw_Md t_Md t_Md_ok n_Md 0 rfl rfl 3 (by decide) zw_501 rfl (ty := .boolean) rfl rfl rfl (by simp) d_Md_empty_2 rfl ?_
  refine z_aload_n C d_Md_empty_5 rfl 0 rfl ?_
  refine z_dup C d_Md_empty_6 rfl ?_
  refine z_get C iw_Md 0 rfl rfl 5 (by decide) zw_503 rfl d_Md_empty_7 ?_
  refine z_aload_n C d_Md_empty_10 rfl 0 rfl ?_
  refine z_callV (As := []) (rest := [.int v_there, .ref h_this]) (ws' := [(h_this, .inr (5, [.int v_thrown, .int v_wires, .int v_isOpen, .int (1 : Int32), .int v_came, .int v_there, .int v_halves, .ref h_this_number, .ref h_this_set, .ref h_this_constant, .int v_rules, .ref h_this_ruleKind, .ref h_this_ruleBit, .ref h_this_ruleOther, .int v_alone, .int v_halfBits, .ref h_this_oldSet, .ref h_this_oldNumber, .ref h_this_allSets, .ref h_this_allNumbers, .int v_allMany, .ref h_this_root])), (h_this_number, .inl (cI, 15625, .inl v_number)), (h_this_set, .inl (cI, 6, .inl v_set))]) C (c_Md_inputs rfl) mi_Md_inputs zw_638 (by decide) 0 rfl rfl [0] (by decide) rfl rfl rfl rfl rfl (by decide) ⟨Nat.zero_le _, Nat.zero_le _⟩ d_Md_empty_11 ?_
  refine z_iand C d_Md_empty_14 ?_
  refine z_topi (fun y_2 ey_2 => ?_)
  have hf := zlet_at ey_2 hf
  refine z_put (ws' := [(h_this, .inr (5, [.int v_thrown, .int v_wires, .int v_isOpen, .int (1 : Int32), .int v_came, .int y_2, .int v_halves, .ref h_this_number, .ref h_this_set, .ref h_this_constant, .int v_rules, .ref h_this_ruleKind, .ref h_this_ruleBit, .ref h_this_ruleOther, .int v_alone, .int v_halfBits, .ref h_this_oldSet, .ref h_this_oldNumber, .ref h_this_allSets, .ref h_this_allNumbers, .int v_allMany, .ref h_this_root])), (h_this_number, .inl (cI, 15625, .inl v_number)), (h_this_set, .inl (cI, 6, .inl v_set))]) C iw_Md t_Md t_Md_ok n_Md 0 rfl rfl 5 (by decide) zw_503 rfl (ty := .int) rfl rfl rfl (by simp) d_Md_empty_15 rfl ?_
  refine z_aload_n C d_Md_empty_18 rfl 0 rfl ?_
  refine z_iconst (v := 0) C d_Md_empty_19 (by decide) ?_
  refine z_put (ws' := [(h_this, .inr (5, [.int v_thrown, .int v_wires, .int v_isOpen, .int (1 : Int32), .int v_came, .int y_2, .int (0 : Int32), .ref h_this_number, .ref h_this_set, .ref h_this_constant, .int v_rules, .ref h_this_ruleKind, .ref h_this_ruleBit, .ref h_this_ruleOther, .int v_alone, .int v_halfBits, .ref h_this_oldSet, .ref h_this_oldNumber, .ref h_this_allSets, .ref h_this_allNumbers, .int v_allMany, .ref h_this_root])), (h_this_number, .inl (cI, 15625, .inl v_number)), (h_this_set, .inl (cI, 6, .inl v_set))]) C iw_Md t_Md t_Md_ok n_Md 0 rfl rfl 6 (by decide) zw_504 rfl (ty := .int) rfl rfl rfl (by simp) d_Md_empty_20 rfl ?_
  refine z_iconst (v := 0) C d_Md_empty_23 (by decide) ?_
  refine z_istore_n (lv' := [(1, .int (0 : Int32)), (0, .ref h_this)]) C d_Md_empty_24 rfl (by decide) rfl ?_
  refine z_lv [1, 0] rfl ?_
  obtain ⟨q_3, h_4, hf⟩ := zb1_elim hf
  refine k_Md_empty_l25_run C hr h_4 ?_
  refine z_iconst (v := 0) C d_Md_empty_45 (by decide) ?_
  refine z_istore_n (lv' := [(1, .int (0 : Int32)), (0, .ref h_this)]) C d_Md_empty_46 rfl (by decide) rfl ?_
  refine z_lv [1, 0] rfl ?_
  obtain ⟨q_5, h_6, hf⟩ := zb1_elim hf
  refine k_Md_empty_l47_run C hr h_6 ?_
  cases hf
  exact z_vret C hr d_Md_empty_74
theorem c_Md_empty {l : Launch} {D : va_G} {cI cL : ClassId} {h_this h_this_number h_this_set h_this_constant h_this_ruleKind h_this_ruleBit h_this_ruleOther h_this_oldSet h_this_oldNumber h_this_allSets h_this_allNumbers h_this_root : Nat} {v_thrown v_wires v_isOpen v_isEmpty v_came v_there v_halves v_rules v_alone v_halfBits v_allMany o_isEmpty o_there o_halves : Int32} {v_number v_set o_number o_set : Nat → Int32} (hf : f_Md_empty v_wires v_isOpen v_isEmpty v_there v_halves v_number v_set = some (o_isEmpty, o_there, o_halves, o_number, o_set)) : zM l y_Md_empty (Cond.code y_Md_empty b_Md_empty 2 none :: zT) rm_Md_empty D vwCl [(cI, .int), (cL, .long)] [.ref h_this] [(h_this, .inr (5, [.int v_thrown, .int v_wires, .int v_isOpen, .int v_isEmpty, .int v_came, .int v_there, .int v_halves, .ref h_this_number, .ref h_this_set, .ref h_this_constant, .int v_rules, .ref h_this_ruleKind, .ref h_this_ruleBit, .ref h_this_ruleOther, .int v_alone, .int v_halfBits, .ref h_this_oldSet, .ref h_this_oldNumber, .ref h_this_allSets, .ref h_this_allNumbers, .int v_allMany, .ref h_this_root])), (h_this_number, .inl (cI, 15625, .inl v_number)), (h_this_set, .inl (cI, 6, .inl v_set))] [(h_this, .inr (5, [.int v_thrown, .int v_wires, .int v_isOpen, .int o_isEmpty, .int v_came, .int o_there, .int o_halves, .ref h_this_number, .ref h_this_set, .ref h_this_constant, .int v_rules, .ref h_this_ruleKind, .ref h_this_ruleBit, .ref h_this_ruleOther, .int v_alone, .int v_halfBits, .ref h_this_oldSet, .ref h_this_oldNumber, .ref h_this_allSets, .ref h_this_allNumbers, .int v_allMany, .ref h_this_root])), (h_this_number, .inl (cI, 15625, .inl o_number)), (h_this_set, .inl (cI, 6, .inl o_set))] (none) :=
  zM.intro (by decide) rfl (fun _ h => List.mem_cons_of_mem _ h) (Nat.le_of_ble_eq_true rfl) (fun _ _ _ _ _ _ _ C hr _ => k_Md_empty C hr hf)
def rm_Md_dropBit : Room := { frames := 1, cells := 0, slots := 0, locals := 23 }
def f_Md_dropBit_l24 (x1 : Int32) (x2 : Int32) (v_there : Int32) (x3 : Int32) (v_number : Nat → Int32) : Option ((Int32 × (Nat → Int32)) ⊕ ((Nat → Int32))) :=
  if x2 < x3 then (
    some (.inr (v_number)))
  else (
    zb1 (f_Md_placeOf ((((1 : Int32) <<< (x1 &&& 31)) ||| ((1 : Int32) <<< (x2 &&& 31))) ||| ((1 : Int32) <<< (x3 &&& 31)))) fun r_3 =>
    if r_3 < 0 ∨ 15625 ≤ r_3.toNatClampNeg then none else
    zlet (upd v_number r_3.toNatClampNeg (0 : Int32)) fun u_5 =>
    zlet (x3 + 1) fun y_6 =>
    some (.inl (y_6, u_5)))
set_option maxRecDepth 100000 in
set_option maxHeartbeats 4000000 in
theorem k_Md_dropBit_l24 {p : Program} {l : Launch} {e : Env} {s : State} {m : MethodId} {args : Array Value} {below : List Frame} {meth : Method} {c : Code} {D : va_G} {cI cL : ClassId} {h_this h_this_number h_this_set h_this_constant h_this_ruleKind h_this_ruleBit h_this_ruleOther h_this_oldSet h_this_oldNumber h_this_allSets h_this_allNumbers h_this_root : Nat} {v_thrown v_wires v_isOpen v_isEmpty v_came v_there v_halves v_rules v_alone v_halfBits v_allMany o_there x1 x2 x3 : Int32} {v_number o_number : Nat → Int32} (C : zC p s m args meth c b_Md_dropBit 4 R_Md D vwCl [(cI, .int), (cL, .long)] (zA [h_this, h_this_number] s.heap.size)) (hr : meth.sig.returnType = none) {z : (Int32 × (Nat → Int32)) ⊕ ((Nat → Int32))} (hf : f_Md_dropBit_l24 x1 x2 v_there x3 v_number = some z) (hK : zcase (fun q => ZV p l e rm_Md_dropBit s m args below meth c 4 D (none) [(h_this, .inr (5, [.int v_thrown, .int v_wires, .int v_isOpen, .int v_isEmpty, .int v_came, .int o_there, .int v_halves, .ref h_this_number, .ref h_this_set, .ref h_this_constant, .int v_rules, .ref h_this_ruleKind, .ref h_this_ruleBit, .ref h_this_ruleOther, .int v_alone, .int v_halfBits, .ref h_this_oldSet, .ref h_this_oldNumber, .ref h_this_allSets, .ref h_this_allNumbers, .int v_allMany, .ref h_this_root])), (h_this_number, .inl (cI, 15625, .inl o_number))] [h_this, h_this_number] [(h_this, .inr (5, [.int v_thrown, .int v_wires, .int v_isOpen, .int v_isEmpty, .int v_came, .int v_there, .int v_halves, .ref h_this_number, .ref h_this_set, .ref h_this_constant, .int v_rules, .ref h_this_ruleKind, .ref h_this_ruleBit, .ref h_this_ruleOther, .int v_alone, .int v_halfBits, .ref h_this_oldSet, .ref h_this_oldNumber, .ref h_this_allSets, .ref h_this_allNumbers, .int v_allMany, .ref h_this_root])), (h_this_number, .inl (cI, 15625, .inl q.2))] 24 [(0, .ref h_this), (1, .int x1), (2, .int x2), (3, .int q.1)] []) (fun q => ZV p l e rm_Md_dropBit s m args below meth c 4 D (none) [(h_this, .inr (5, [.int v_thrown, .int v_wires, .int v_isOpen, .int v_isEmpty, .int v_came, .int o_there, .int v_halves, .ref h_this_number, .ref h_this_set, .ref h_this_constant, .int v_rules, .ref h_this_ruleKind, .ref h_this_ruleBit, .ref h_this_ruleOther, .int v_alone, .int v_halfBits, .ref h_this_oldSet, .ref h_this_oldNumber, .ref h_this_allSets, .ref h_this_allNumbers, .int v_allMany, .ref h_this_root])), (h_this_number, .inl (cI, 15625, .inl o_number))] [h_this, h_this_number] [(h_this, .inr (5, [.int v_thrown, .int v_wires, .int v_isOpen, .int v_isEmpty, .int v_came, .int v_there, .int v_halves, .ref h_this_number, .ref h_this_set, .ref h_this_constant, .int v_rules, .ref h_this_ruleKind, .ref h_this_ruleBit, .ref h_this_ruleOther, .int v_alone, .int v_halfBits, .ref h_this_oldSet, .ref h_this_oldNumber, .ref h_this_allSets, .ref h_this_allNumbers, .int v_allMany, .ref h_this_root])), (h_this_number, .inl (cI, 15625, .inl q))] 55 [(0, .ref h_this), (1, .int x1), (2, .int x2)] []) z) : ZV p l e rm_Md_dropBit s m args below meth c 4 D (none) [(h_this, .inr (5, [.int v_thrown, .int v_wires, .int v_isOpen, .int v_isEmpty, .int v_came, .int o_there, .int v_halves, .ref h_this_number, .ref h_this_set, .ref h_this_constant, .int v_rules, .ref h_this_ruleKind, .ref h_this_ruleBit, .ref h_this_ruleOther, .int v_alone, .int v_halfBits, .ref h_this_oldSet, .ref h_this_oldNumber, .ref h_this_allSets, .ref h_this_allNumbers, .int v_allMany, .ref h_this_root])), (h_this_number, .inl (cI, 15625, .inl o_number))] [h_this, h_this_number] [(h_this, .inr (5, [.int v_thrown, .int v_wires, .int v_isOpen, .int v_isEmpty, .int v_came, .int v_there, .int v_halves, .ref h_this_number, .ref h_this_set, .ref h_this_constant, .int v_rules, .ref h_this_ruleKind, .ref h_this_ruleBit, .ref h_this_ruleOther, .int v_alone, .int v_halfBits, .ref h_this_oldSet, .ref h_this_oldNumber, .ref h_this_allSets, .ref h_this_allNumbers, .int v_allMany, .ref h_this_root])), (h_this_number, .inl (cI, 15625, .inl v_number))] 24 [(0, .ref h_this), (1, .int x1), (2, .int x2), (3, .int x3)] [] := by
  unfold f_Md_dropBit_l24 at hf
  refine z_iload_n C d_Md_dropBit_24 rfl 3 rfl ?_
  refine z_iload_n C d_Md_dropBit_25 rfl 2 rfl ?_
  refine z_icmp_gt (tgt := 55) C d_Md_dropBit_26 (by decide) (fun c_1 => ?_) (fun c_1 => ?_)
  · have hf := zif_pos c_1 hf
    refine z_lv [0, 1, 2] rfl ?_
    cases hf
    exact hK
  · have hf := zif_neg c_1 hf
    refine z_aload_n C d_Md_dropBit_29 rfl 0 rfl ?_
    refine z_get C iw_Md 0 rfl rfl 7 (by decide) zw_505 rfl d_Md_dropBit_30 ?_
    refine z_iconst (v := 1) C d_Md_dropBit_33 (by decide) ?_
    refine z_iload_n C d_Md_dropBit_34 rfl 1 rfl ?_
    refine z_ishl C d_Md_dropBit_35 ?_
    refine z_iconst (v := 1) C d_Md_dropBit_36 (by decide) ?_
    refine z_iload_n C d_Md_dropBit_37 rfl 2 rfl ?_
    refine z_ishl C d_Md_dropBit_38 ?_
    refine z_ior C d_Md_dropBit_39 ?_
    refine z_iconst (v := 1) C d_Md_dropBit_40 (by decide) ?_
    refine z_iload_n C d_Md_dropBit_41 rfl 3 rfl ?_
    refine z_ishl C d_Md_dropBit_42 ?_
    refine z_ior C d_Md_dropBit_43 ?_
    obtain ⟨r_3, h_2, hf⟩ := zb1_elim hf
    refine z_callS (As := [.int ((((1 : Int32) <<< (x1 &&& 31)) ||| ((1 : Int32) <<< (x2 &&& 31))) ||| ((1 : Int32) <<< (x3 &&& 31)))]) (rest := [.ref h_this_number]) (ws' := [(h_this, .inr (5, [.int v_thrown, .int v_wires, .int v_isOpen, .int v_isEmpty, .int v_came, .int v_there, .int v_halves, .ref h_this_number, .ref h_this_set, .ref h_this_constant, .int v_rules, .ref h_this_ruleKind, .ref h_this_ruleBit, .ref h_this_ruleOther, .int v_alone, .int v_halfBits, .ref h_this_oldSet, .ref h_this_oldNumber, .ref h_this_allSets, .ref h_this_allNumbers, .int v_allMany, .ref h_this_root])), (h_this_number, .inl (cI, 15625, .inl v_number))]) C (c_Md_placeOf h_2) mi_Md_placeOf zw_608 (by decide) [] (by decide) rfl rfl rfl rfl rfl (by decide) ⟨Nat.zero_le _, Nat.zero_le _⟩ d_Md_dropBit_44 ?_
    refine z_iconst (v := 0) C d_Md_dropBit_47 (by decide) ?_
    obtain ⟨g_4, hf⟩ := zguard hf
    obtain ⟨u_5, eu_5⟩ : ∃ u : Nat → Int32, u = upd v_number r_3.toNatClampNeg (0 : Int32) := ⟨_, rfl⟩
    have hf := zlet_at eu_5 hf
    refine z_iast (ws' := [(h_this, .inr (5, [.int v_thrown, .int v_wires, .int v_isOpen, .int v_isEmpty, .int v_came, .int v_there, .int v_halves, .ref h_this_number, .ref h_this_set, .ref h_this_constant, .int v_rules, .ref h_this_ruleKind, .ref h_this_ruleBit, .ref h_this_ruleOther, .int v_alone, .int v_halfBits, .ref h_this_oldSet, .ref h_this_oldNumber, .ref h_this_allSets, .ref h_this_allNumbers, .int v_allMany, .ref h_this_root])), (h_this_number, .inl (cI, 15625, .inl u_5))]) C 1 0 rfl rfl g_4 d_Md_dropBit_48 (by rw [eu_5]; rfl) ?_
    obtain ⟨y_6, ey_6⟩ : ∃ y : Int32, y = x3 + 1 := ⟨_, rfl⟩
    have hf := zlet_at ey_6 hf
    refine z_iinc (v := y_6) (lv' := [(3, .int y_6), (0, .ref h_this), (1, .int x1), (2, .int x2)]) C d_Md_dropBit_49 (k := 3) rfl (by rw [ey_6]; rfl) (by decide) rfl ?_
    refine z_goto (tgt := 24) C d_Md_dropBit_52 (by decide) ?_
    refine z_lv [1, 2, 3, 0] rfl ?_
    cases hf
    exact hK
theorem k_Md_dropBit_l24_run {p : Program} {l : Launch} {e : Env} {s : State} {m : MethodId} {args : Array Value} {below : List Frame} {meth : Method} {c : Code} {D : va_G} {cI cL : ClassId} {h_this h_this_number h_this_set h_this_constant h_this_ruleKind h_this_ruleBit h_this_ruleOther h_this_oldSet h_this_oldNumber h_this_allSets h_this_allNumbers h_this_root : Nat} {v_thrown v_wires v_isOpen v_isEmpty v_came v_there v_halves v_rules v_alone v_halfBits v_allMany o_there x1 x2 x3 : Int32} {v_number o_number : Nat → Int32} (C : zC p s m args meth c b_Md_dropBit 4 R_Md D vwCl [(cI, .int), (cL, .long)] (zA [h_this, h_this_number] s.heap.size)) (hr : meth.sig.returnType = none) {o0 : Nat → Int32} (hf : zloop (fun q => f_Md_dropBit_l24 x1 x2 v_there q.1 q.2) zF (x3, v_number) = some o0) (hK : ZV p l e rm_Md_dropBit s m args below meth c 4 D (none) [(h_this, .inr (5, [.int v_thrown, .int v_wires, .int v_isOpen, .int v_isEmpty, .int v_came, .int o_there, .int v_halves, .ref h_this_number, .ref h_this_set, .ref h_this_constant, .int v_rules, .ref h_this_ruleKind, .ref h_this_ruleBit, .ref h_this_ruleOther, .int v_alone, .int v_halfBits, .ref h_this_oldSet, .ref h_this_oldNumber, .ref h_this_allSets, .ref h_this_allNumbers, .int v_allMany, .ref h_this_root])), (h_this_number, .inl (cI, 15625, .inl o_number))] [h_this, h_this_number] [(h_this, .inr (5, [.int v_thrown, .int v_wires, .int v_isOpen, .int v_isEmpty, .int v_came, .int v_there, .int v_halves, .ref h_this_number, .ref h_this_set, .ref h_this_constant, .int v_rules, .ref h_this_ruleKind, .ref h_this_ruleBit, .ref h_this_ruleOther, .int v_alone, .int v_halfBits, .ref h_this_oldSet, .ref h_this_oldNumber, .ref h_this_allSets, .ref h_this_allNumbers, .int v_allMany, .ref h_this_root])), (h_this_number, .inl (cI, 15625, .inl o0))] 55 [(0, .ref h_this), (1, .int x1), (2, .int x2)] []) : ZV p l e rm_Md_dropBit s m args below meth c 4 D (none) [(h_this, .inr (5, [.int v_thrown, .int v_wires, .int v_isOpen, .int v_isEmpty, .int v_came, .int o_there, .int v_halves, .ref h_this_number, .ref h_this_set, .ref h_this_constant, .int v_rules, .ref h_this_ruleKind, .ref h_this_ruleBit, .ref h_this_ruleOther, .int v_alone, .int v_halfBits, .ref h_this_oldSet, .ref h_this_oldNumber, .ref h_this_allSets, .ref h_this_allNumbers, .int v_allMany, .ref h_this_root])), (h_this_number, .inl (cI, 15625, .inl o_number))] [h_this, h_this_number] [(h_this, .inr (5, [.int v_thrown, .int v_wires, .int v_isOpen, .int v_isEmpty, .int v_came, .int v_there, .int v_halves, .ref h_this_number, .ref h_this_set, .ref h_this_constant, .int v_rules, .ref h_this_ruleKind, .ref h_this_ruleBit, .ref h_this_ruleOther, .int v_alone, .int v_halfBits, .ref h_this_oldSet, .ref h_this_oldNumber, .ref h_this_allSets, .ref h_this_allNumbers, .int v_allMany, .ref h_this_root])), (h_this_number, .inl (cI, 15625, .inl v_number))] 24 [(0, .ref h_this), (1, .int x1), (2, .int x2), (3, .int x3)] [] :=
  zloop_run (P := fun q => ZV p l e rm_Md_dropBit s m args below meth c 4 D (none) [(h_this, .inr (5, [.int v_thrown, .int v_wires, .int v_isOpen, .int v_isEmpty, .int v_came, .int o_there, .int v_halves, .ref h_this_number, .ref h_this_set, .ref h_this_constant, .int v_rules, .ref h_this_ruleKind, .ref h_this_ruleBit, .ref h_this_ruleOther, .int v_alone, .int v_halfBits, .ref h_this_oldSet, .ref h_this_oldNumber, .ref h_this_allSets, .ref h_this_allNumbers, .int v_allMany, .ref h_this_root])), (h_this_number, .inl (cI, 15625, .inl o_number))] [h_this, h_this_number] [(h_this, .inr (5, [.int v_thrown, .int v_wires, .int v_isOpen, .int v_isEmpty, .int v_came, .int v_there, .int v_halves, .ref h_this_number, .ref h_this_set, .ref h_this_constant, .int v_rules, .ref h_this_ruleKind, .ref h_this_ruleBit, .ref h_this_ruleOther, .int v_alone, .int v_halfBits, .ref h_this_oldSet, .ref h_this_oldNumber, .ref h_this_allSets, .ref h_this_allNumbers, .int v_allMany, .ref h_this_root])), (h_this_number, .inl (cI, 15625, .inl q.2))] 24 [(0, .ref h_this), (1, .int x1), (2, .int x2), (3, .int q.1)] []) (K := (fun q => ZV p l e rm_Md_dropBit s m args below meth c 4 D (none) [(h_this, .inr (5, [.int v_thrown, .int v_wires, .int v_isOpen, .int v_isEmpty, .int v_came, .int o_there, .int v_halves, .ref h_this_number, .ref h_this_set, .ref h_this_constant, .int v_rules, .ref h_this_ruleKind, .ref h_this_ruleBit, .ref h_this_ruleOther, .int v_alone, .int v_halfBits, .ref h_this_oldSet, .ref h_this_oldNumber, .ref h_this_allSets, .ref h_this_allNumbers, .int v_allMany, .ref h_this_root])), (h_this_number, .inl (cI, 15625, .inl o_number))] [h_this, h_this_number] [(h_this, .inr (5, [.int v_thrown, .int v_wires, .int v_isOpen, .int v_isEmpty, .int v_came, .int v_there, .int v_halves, .ref h_this_number, .ref h_this_set, .ref h_this_constant, .int v_rules, .ref h_this_ruleKind, .ref h_this_ruleBit, .ref h_this_ruleOther, .int v_alone, .int v_halfBits, .ref h_this_oldSet, .ref h_this_oldNumber, .ref h_this_allSets, .ref h_this_allNumbers, .int v_allMany, .ref h_this_root])), (h_this_number, .inl (cI, 15625, .inl q))] 55 [(0, .ref h_this), (1, .int x1), (2, .int x2)] [])) (fun q z hz hK => k_Md_dropBit_l24 C hr hz hK) zF _ (o0) hf hK
def f_Md_dropBit_l16 (x1 : Int32) (v_there : Int32) (x2 : Int32) (v_number : Nat → Int32) : Option ((Int32 × (Nat → Int32)) ⊕ ((Nat → Int32))) :=
  if (24 : Int32) ≤ x2 then (
    some (.inr (v_number)))
  else (
    zb1 (zloop (fun q => f_Md_dropBit_l24 x1 x2 v_there q.1 q.2) zF ((0 : Int32), v_number)) fun q_2 =>
    zlet (x2 + 1) fun y_4 =>
    some (.inl (y_4, q_2)))
set_option maxRecDepth 100000 in
set_option maxHeartbeats 4000000 in
theorem k_Md_dropBit_l16 {p : Program} {l : Launch} {e : Env} {s : State} {m : MethodId} {args : Array Value} {below : List Frame} {meth : Method} {c : Code} {D : va_G} {cI cL : ClassId} {h_this h_this_number h_this_set h_this_constant h_this_ruleKind h_this_ruleBit h_this_ruleOther h_this_oldSet h_this_oldNumber h_this_allSets h_this_allNumbers h_this_root : Nat} {v_thrown v_wires v_isOpen v_isEmpty v_came v_there v_halves v_rules v_alone v_halfBits v_allMany o_there x1 x2 : Int32} {v_number o_number : Nat → Int32} (C : zC p s m args meth c b_Md_dropBit 4 R_Md D vwCl [(cI, .int), (cL, .long)] (zA [h_this, h_this_number] s.heap.size)) (hr : meth.sig.returnType = none) {z : (Int32 × (Nat → Int32)) ⊕ ((Nat → Int32))} (hf : f_Md_dropBit_l16 x1 v_there x2 v_number = some z) (hK : zcase (fun q => ZV p l e rm_Md_dropBit s m args below meth c 4 D (none) [(h_this, .inr (5, [.int v_thrown, .int v_wires, .int v_isOpen, .int v_isEmpty, .int v_came, .int o_there, .int v_halves, .ref h_this_number, .ref h_this_set, .ref h_this_constant, .int v_rules, .ref h_this_ruleKind, .ref h_this_ruleBit, .ref h_this_ruleOther, .int v_alone, .int v_halfBits, .ref h_this_oldSet, .ref h_this_oldNumber, .ref h_this_allSets, .ref h_this_allNumbers, .int v_allMany, .ref h_this_root])), (h_this_number, .inl (cI, 15625, .inl o_number))] [h_this, h_this_number] [(h_this, .inr (5, [.int v_thrown, .int v_wires, .int v_isOpen, .int v_isEmpty, .int v_came, .int v_there, .int v_halves, .ref h_this_number, .ref h_this_set, .ref h_this_constant, .int v_rules, .ref h_this_ruleKind, .ref h_this_ruleBit, .ref h_this_ruleOther, .int v_alone, .int v_halfBits, .ref h_this_oldSet, .ref h_this_oldNumber, .ref h_this_allSets, .ref h_this_allNumbers, .int v_allMany, .ref h_this_root])), (h_this_number, .inl (cI, 15625, .inl q.2))] 16 [(0, .ref h_this), (1, .int x1), (2, .int q.1)] []) (fun q => ZV p l e rm_Md_dropBit s m args below meth c 4 D (none) [(h_this, .inr (5, [.int v_thrown, .int v_wires, .int v_isOpen, .int v_isEmpty, .int v_came, .int o_there, .int v_halves, .ref h_this_number, .ref h_this_set, .ref h_this_constant, .int v_rules, .ref h_this_ruleKind, .ref h_this_ruleBit, .ref h_this_ruleOther, .int v_alone, .int v_halfBits, .ref h_this_oldSet, .ref h_this_oldNumber, .ref h_this_allSets, .ref h_this_allNumbers, .int v_allMany, .ref h_this_root])), (h_this_number, .inl (cI, 15625, .inl o_number))] [h_this, h_this_number] [(h_this, .inr (5, [.int v_thrown, .int v_wires, .int v_isOpen, .int v_isEmpty, .int v_came, .int v_there, .int v_halves, .ref h_this_number, .ref h_this_set, .ref h_this_constant, .int v_rules, .ref h_this_ruleKind, .ref h_this_ruleBit, .ref h_this_ruleOther, .int v_alone, .int v_halfBits, .ref h_this_oldSet, .ref h_this_oldNumber, .ref h_this_allSets, .ref h_this_allNumbers, .int v_allMany, .ref h_this_root])), (h_this_number, .inl (cI, 15625, .inl q))] 61 [] []) z) : ZV p l e rm_Md_dropBit s m args below meth c 4 D (none) [(h_this, .inr (5, [.int v_thrown, .int v_wires, .int v_isOpen, .int v_isEmpty, .int v_came, .int o_there, .int v_halves, .ref h_this_number, .ref h_this_set, .ref h_this_constant, .int v_rules, .ref h_this_ruleKind, .ref h_this_ruleBit, .ref h_this_ruleOther, .int v_alone, .int v_halfBits, .ref h_this_oldSet, .ref h_this_oldNumber, .ref h_this_allSets, .ref h_this_allNumbers, .int v_allMany, .ref h_this_root])), (h_this_number, .inl (cI, 15625, .inl o_number))] [h_this, h_this_number] [(h_this, .inr (5, [.int v_thrown, .int v_wires, .int v_isOpen, .int v_isEmpty, .int v_came, .int v_there, .int v_halves, .ref h_this_number, .ref h_this_set, .ref h_this_constant, .int v_rules, .ref h_this_ruleKind, .ref h_this_ruleBit, .ref h_this_ruleOther, .int v_alone, .int v_halfBits, .ref h_this_oldSet, .ref h_this_oldNumber, .ref h_this_allSets, .ref h_this_allNumbers, .int v_allMany, .ref h_this_root])), (h_this_number, .inl (cI, 15625, .inl v_number))] 16 [(0, .ref h_this), (1, .int x1), (2, .int x2)] [] := by
  unfold f_Md_dropBit_l16 at hf
  refine z_iload_n C d_Md_dropBit_16 rfl 2 rfl ?_
  refine z_bipush (v := 24) C d_Md_dropBit_17 (by decide) ?_
  refine z_icmp_ge (tgt := 61) C d_Md_dropBit_19 (by decide) (fun c_1 => ?_) (fun c_1 => ?_)
  · have hf := zif_pos c_1 hf
    refine z_lv [] rfl ?_
    cases hf
    exact hK
  · have hf := zif_neg c_1 hf
    refine z_iconst (v := 0) C d_Md_dropBit_22 (by decide) ?_
    refine z_istore_n (lv' := [(3, .int (0 : Int32)), (0, .ref h_this), (1, .int x1), (2, .int x2)]) C d_Md_dropBit_23 rfl (by decide) rfl ?_
    refine z_lv [1, 2, 3, 0] rfl ?_
    obtain ⟨q_2, h_3, hf⟩ := zb1_elim hf
    refine k_Md_dropBit_l24_run C hr h_3 ?_
    obtain ⟨y_4, ey_4⟩ : ∃ y : Int32, y = x2 + 1 := ⟨_, rfl⟩
    have hf := zlet_at ey_4 hf
    refine z_iinc (v := y_4) (lv' := [(2, .int y_4), (0, .ref h_this), (1, .int x1)]) C d_Md_dropBit_55 (k := 2) rfl (by rw [ey_4]; rfl) (by decide) rfl ?_
    refine z_goto (tgt := 16) C d_Md_dropBit_58 (by decide) ?_
    refine z_lv [1, 2, 0] rfl ?_
    cases hf
    exact hK
theorem k_Md_dropBit_l16_run {p : Program} {l : Launch} {e : Env} {s : State} {m : MethodId} {args : Array Value} {below : List Frame} {meth : Method} {c : Code} {D : va_G} {cI cL : ClassId} {h_this h_this_number h_this_set h_this_constant h_this_ruleKind h_this_ruleBit h_this_ruleOther h_this_oldSet h_this_oldNumber h_this_allSets h_this_allNumbers h_this_root : Nat} {v_thrown v_wires v_isOpen v_isEmpty v_came v_there v_halves v_rules v_alone v_halfBits v_allMany o_there x1 x2 : Int32} {v_number o_number : Nat → Int32} (C : zC p s m args meth c b_Md_dropBit 4 R_Md D vwCl [(cI, .int), (cL, .long)] (zA [h_this, h_this_number] s.heap.size)) (hr : meth.sig.returnType = none) {o0 : Nat → Int32} (hf : zloop (fun q => f_Md_dropBit_l16 x1 v_there q.1 q.2) zF (x2, v_number) = some o0) (hK : ZV p l e rm_Md_dropBit s m args below meth c 4 D (none) [(h_this, .inr (5, [.int v_thrown, .int v_wires, .int v_isOpen, .int v_isEmpty, .int v_came, .int o_there, .int v_halves, .ref h_this_number, .ref h_this_set, .ref h_this_constant, .int v_rules, .ref h_this_ruleKind, .ref h_this_ruleBit, .ref h_this_ruleOther, .int v_alone, .int v_halfBits, .ref h_this_oldSet, .ref h_this_oldNumber, .ref h_this_allSets, .ref h_this_allNumbers, .int v_allMany, .ref h_this_root])), (h_this_number, .inl (cI, 15625, .inl o_number))] [h_this, h_this_number] [(h_this, .inr (5, [.int v_thrown, .int v_wires, .int v_isOpen, .int v_isEmpty, .int v_came, .int v_there, .int v_halves, .ref h_this_number, .ref h_this_set, .ref h_this_constant, .int v_rules, .ref h_this_ruleKind, .ref h_this_ruleBit, .ref h_this_ruleOther, .int v_alone, .int v_halfBits, .ref h_this_oldSet, .ref h_this_oldNumber, .ref h_this_allSets, .ref h_this_allNumbers, .int v_allMany, .ref h_this_root])), (h_this_number, .inl (cI, 15625, .inl o0))] 61 [] []) : ZV p l e rm_Md_dropBit s m args below meth c 4 D (none) [(h_this, .inr (5, [.int v_thrown, .int v_wires, .int v_isOpen, .int v_isEmpty, .int v_came, .int o_there, .int v_halves, .ref h_this_number, .ref h_this_set, .ref h_this_constant, .int v_rules, .ref h_this_ruleKind, .ref h_this_ruleBit, .ref h_this_ruleOther, .int v_alone, .int v_halfBits, .ref h_this_oldSet, .ref h_this_oldNumber, .ref h_this_allSets, .ref h_this_allNumbers, .int v_allMany, .ref h_this_root])), (h_this_number, .inl (cI, 15625, .inl o_number))] [h_this, h_this_number] [(h_this, .inr (5, [.int v_thrown, .int v_wires, .int v_isOpen, .int v_isEmpty, .int v_came, .int v_there, .int v_halves, .ref h_this_number, .ref h_this_set, .ref h_this_constant, .int v_rules, .ref h_this_ruleKind, .ref h_this_ruleBit, .ref h_this_ruleOther, .int v_alone, .int v_halfBits, .ref h_this_oldSet, .ref h_this_oldNumber, .ref h_this_allSets, .ref h_this_allNumbers, .int v_allMany, .ref h_this_root])), (h_this_number, .inl (cI, 15625, .inl v_number))] 16 [(0, .ref h_this), (1, .int x1), (2, .int x2)] [] :=
  zloop_run (P := fun q => ZV p l e rm_Md_dropBit s m args below meth c 4 D (none) [(h_this, .inr (5, [.int v_thrown, .int v_wires, .int v_isOpen, .int v_isEmpty, .int v_came, .int o_there, .int v_halves, .ref h_this_number, .ref h_this_set, .ref h_this_constant, .int v_rules, .ref h_this_ruleKind, .ref h_this_ruleBit, .ref h_this_ruleOther, .int v_alone, .int v_halfBits, .ref h_this_oldSet, .ref h_this_oldNumber, .ref h_this_allSets, .ref h_this_allNumbers, .int v_allMany, .ref h_this_root])), (h_this_number, .inl (cI, 15625, .inl o_number))] [h_this, h_this_number] [(h_this, .inr (5, [.int v_thrown, .int v_wires, .int v_isOpen, .int v_isEmpty, .int v_came, .int v_there, .int v_halves, .ref h_this_number, .ref h_this_set, .ref h_this_constant, .int v_rules, .ref h_this_ruleKind, .ref h_this_ruleBit, .ref h_this_ruleOther, .int v_alone, .int v_halfBits, .ref h_this_oldSet, .ref h_this_oldNumber, .ref h_this_allSets, .ref h_this_allNumbers, .int v_allMany, .ref h_this_root])), (h_this_number, .inl (cI, 15625, .inl q.2))] 16 [(0, .ref h_this), (1, .int x1), (2, .int q.1)] []) (K := (fun q => ZV p l e rm_Md_dropBit s m args below meth c 4 D (none) [(h_this, .inr (5, [.int v_thrown, .int v_wires, .int v_isOpen, .int v_isEmpty, .int v_came, .int o_there, .int v_halves, .ref h_this_number, .ref h_this_set, .ref h_this_constant, .int v_rules, .ref h_this_ruleKind, .ref h_this_ruleBit, .ref h_this_ruleOther, .int v_alone, .int v_halfBits, .ref h_this_oldSet, .ref h_this_oldNumber, .ref h_this_allSets, .ref h_this_allNumbers, .int v_allMany, .ref h_this_root])), (h_this_number, .inl (cI, 15625, .inl o_number))] [h_this, h_this_number] [(h_this, .inr (5, [.int v_thrown, .int v_wires, .int v_isOpen, .int v_isEmpty, .int v_came, .int v_there, .int v_halves, .ref h_this_number, .ref h_this_set, .ref h_this_constant, .int v_rules, .ref h_this_ruleKind, .ref h_this_ruleBit, .ref h_this_ruleOther, .int v_alone, .int v_halfBits, .ref h_this_oldSet, .ref h_this_oldNumber, .ref h_this_allSets, .ref h_this_allNumbers, .int v_allMany, .ref h_this_root])), (h_this_number, .inl (cI, 15625, .inl q))] 61 [] [])) (fun q z hz hK => k_Md_dropBit_l16 C hr hz hK) zF _ (o0) hf hK
/-- PathSumsModel.dropBit(I)V -/
def f_Md_dropBit (x1 : Int32) (v_there : Int32) (v_number : Nat → Int32) : Option (Int32 × (Nat → Int32)) :=
  zlet (v_there &&& (((1 : Int32) <<< (x1 &&& 31)) ^^^ (-1 : Int32))) fun y_1 =>
  zb1 (zloop (fun q => f_Md_dropBit_l16 x1 y_1 q.1 q.2) zF ((0 : Int32), v_number)) fun q_2 =>
  some (y_1, q_2)
set_option maxRecDepth 100000 in
set_option maxHeartbeats 4000000 in
theorem k_Md_dropBit {p : Program} {l : Launch} {e : Env} {s : State} {m : MethodId} {args : Array Value} {below : List Frame} {meth : Method} {c : Code} {D : va_G} {cI cL : ClassId} {h_this h_this_number h_this_set h_this_constant h_this_ruleKind h_this_ruleBit h_this_ruleOther h_this_oldSet h_this_oldNumber h_this_allSets h_this_allNumbers h_this_root : Nat} {v_thrown v_wires v_isOpen v_isEmpty v_came v_there v_halves v_rules v_alone v_halfBits v_allMany o_there x1 : Int32} {v_number o_number : Nat → Int32} (C : zC p s m args meth c b_Md_dropBit 4 R_Md D vwCl [(cI, .int), (cL, .long)] (zA [h_this, h_this_number] s.heap.size)) (hr : meth.sig.returnType = none) (hf : f_Md_dropBit x1 v_there v_number = some (o_there, o_number)) : ZV p l e rm_Md_dropBit s m args below meth c 4 D (none) [(h_this, .inr (5, [.int v_thrown, .int v_wires, .int v_isOpen, .int v_isEmpty, .int v_came, .int o_there, .int v_halves, .ref h_this_number, .ref h_this_set, .ref h_this_constant, .int v_rules, .ref h_this_ruleKind, .ref h_this_ruleBit, .ref h_this_ruleOther, .int v_alone, .int v_halfBits, .ref h_this_oldSet, .ref h_this_oldNumber, .ref h_this_allSets, .ref h_this_allNumbers, .int v_allMany, .ref h_this_root])), (h_this_number, .inl (cI, 15625, .inl o_number))] [h_this, h_this_number] [(h_this, .inr (5, [.int v_thrown, .int v_wires, .int v_isOpen, .int v_isEmpty, .int v_came, .int v_there, .int v_halves, .ref h_this_number, .ref h_this_set, .ref h_this_constant, .int v_rules, .ref h_this_ruleKind, .ref h_this_ruleBit, .ref h_this_ruleOther, .int v_alone, .int v_halfBits, .ref h_this_oldSet, .ref h_this_oldNumber, .ref h_this_allSets, .ref h_this_allNumbers, .int v_allMany, .ref h_this_root])), (h_this_number, .inl (cI, 15625, .inl v_number))] 0 [(0, .ref h_this), (1, .int x1)] [] := by
  unfold f_Md_dropBit at hf
  refine z_aload_n C d_Md_dropBit_0 rfl 0 rfl ?_
  refine z_dup C d_Md_dropBit_1 rfl ?_
  refine z_get C iw_Md 0 rfl rfl 5 (by decide) zw_503 rfl d_Md_dropBit_2 ?_
  refine z_iconst (v := 1) C d_Md_dropBit_5 (by decide) ?_
  refine z_iload_n C d_Md_dropBit_6 rfl 1 rfl ?_
  refine z_ishl C d_Md_dropBit_7 ?_
  refine z_iconst (v := -1) C d_Md_dropBit_8 (by decide) ?_
  refine z_ixor C d_Md_dropBit_9 ?_
  refine z_iand C d_Md_dropBit_10 ?_
  refine z_topi (fun y_1 ey_1 => ?_)
  have hf := zlet_at ey_1 hf
  refine z_put (ws' := [(h_this, .inr (5, [.int v_thrown, .int v_wires, .int v_isOpen, .int v_isEmpty, .int v_came, .int y_1, .int v_halves, .ref h_this_number, .ref h_this_set, .ref h_this_constant, .int v_rules, .ref h_this_ruleKind, .ref h_this_ruleBit, .ref h_this_ruleOther, .int v_alone, .int v_halfBits, .ref h_this_oldSet, .ref h_this_oldNumber, .ref h_this_allSets, .ref h_this_allNumbers, .int v_allMany, .ref h_this_root])), (h_this_number, .inl (cI, 15625, .inl v_number))]) C iw_Md t_Md t_Md_ok n_Md 0 rfl rfl 5 (by decide) zw_503 rfl (ty := .int) rfl rfl rfl (by simp) d_Md_dropBit_11 rfl ?_
  refine z_iconst (v := 0) C d_Md_dropBit_14 (by decide) ?_
  refine z_istore_n (lv' := [(2, .int (0 : Int32)), (0, .ref h_this), (1, .int x1)]) C d_Md_dropBit_15 rfl (by decide) rfl ?_
  refine z_lv [1, 2, 0] rfl ?_
  obtain ⟨q_2, h_3, hf⟩ := zb1_elim hf
  refine k_Md_dropBit_l16_run C hr h_3 ?_
  cases hf
  exact z_vret C hr d_Md_dropBit_61
theorem c_Md_dropBit {l : Launch} {D : va_G} {cI cL : ClassId} {h_this h_this_number h_this_set h_this_constant h_this_ruleKind h_this_ruleBit h_this_ruleOther h_this_oldSet h_this_oldNumber h_this_allSets h_this_allNumbers h_this_root : Nat} {v_thrown v_wires v_isOpen v_isEmpty v_came v_there v_halves v_rules v_alone v_halfBits v_allMany o_there x1 : Int32} {v_number o_number : Nat → Int32} (hf : f_Md_dropBit x1 v_there v_number = some (o_there, o_number)) : zM l y_Md_dropBit (Cond.code y_Md_dropBit b_Md_dropBit 4 none :: zT) rm_Md_dropBit D vwCl [(cI, .int), (cL, .long)] [.ref h_this, .int x1] [(h_this, .inr (5, [.int v_thrown, .int v_wires, .int v_isOpen, .int v_isEmpty, .int v_came, .int v_there, .int v_halves, .ref h_this_number, .ref h_this_set, .ref h_this_constant, .int v_rules, .ref h_this_ruleKind, .ref h_this_ruleBit, .ref h_this_ruleOther, .int v_alone, .int v_halfBits, .ref h_this_oldSet, .ref h_this_oldNumber, .ref h_this_allSets, .ref h_this_allNumbers, .int v_allMany, .ref h_this_root])), (h_this_number, .inl (cI, 15625, .inl v_number))] [(h_this, .inr (5, [.int v_thrown, .int v_wires, .int v_isOpen, .int v_isEmpty, .int v_came, .int o_there, .int v_halves, .ref h_this_number, .ref h_this_set, .ref h_this_constant, .int v_rules, .ref h_this_ruleKind, .ref h_this_ruleBit, .ref h_this_ruleOther, .int v_alone, .int v_halfBits, .ref h_this_oldSet, .ref h_this_oldNumber, .ref h_this_allSets, .ref h_this_allNumbers, .int v_allMany, .ref h_this_root])), (h_this_number, .inl (cI, 15625, .inl o_number))] (none) :=
  zM.intro (by decide) rfl (fun _ h => List.mem_cons_of_mem _ h) (Nat.le_of_ble_eq_true rfl) (fun _ _ _ _ _ _ _ C hr _ => k_Md_dropBit C hr hf)
def rm_Md_greatest : Room := { frames := 0, cells := 0, slots := 0, locals := 0 }
def f_Md_greatest_l3 (x0 : Int32) (x1 : Int32) : Option ((Int32) ⊕ (Int32)) :=
  if ((x0 >>> (x1 &&& 31)) &&& (1 : Int32)) = 0 then (
    zlet (x1 + (-1)) fun y_2 =>
    some (.inl (y_2)))
  else (
    some (.inr (x1)))
set_option maxRecDepth 100000 in
set_option maxHeartbeats 4000000 in
theorem k_Md_greatest_l3 {p : Program} {l : Launch} {e : Env} {s : State} {m : MethodId} {args : Array Value} {below : List Frame} {meth : Method} {c : Code} {D : va_G} {cI cL : ClassId} {rr x0 x1 : Int32} (C : zC p s m args meth c b_Md_greatest 2 R_Md D vwCl [(cI, .int), (cL, .long)] (zA [] s.heap.size)) (hr : meth.sig.returnType = some .int) {z : (Int32) ⊕ (Int32)} (hf : f_Md_greatest_l3 x0 x1 = some z) (hK : zcase (fun q => ZV p l e rm_Md_greatest s m args below meth c 2 D (some (.int rr)) [] [] [] 3 [(0, .int x0), (1, .int q)] []) (fun q => ZV p l e rm_Md_greatest s m args below meth c 2 D (some (.int rr)) [] [] [] 17 [(1, .int q)] []) z) : ZV p l e rm_Md_greatest s m args below meth c 2 D (some (.int rr)) [] [] [] 3 [(0, .int x0), (1, .int x1)] [] := by
  unfold f_Md_greatest_l3 at hf
  refine z_iload_n C d_Md_greatest_3 rfl 0 rfl ?_
  refine z_iload_n C d_Md_greatest_4 rfl 1 rfl ?_
  refine z_ishr C d_Md_greatest_5 ?_
  refine z_iconst (v := 1) C d_Md_greatest_6 (by decide) ?_
  refine z_iand C d_Md_greatest_7 ?_
  refine z_if_ne (tgt := 17) C d_Md_greatest_8 (by decide) (fun c_1 => ?_) (fun c_1 => ?_)
  · have hf := zif_neg c_1 hf
    refine z_lv [1] rfl ?_
    cases hf
    exact hK
  · have hf := zif_pos c_1 hf
    obtain ⟨y_2, ey_2⟩ : ∃ y : Int32, y = x1 + (-1) := ⟨_, rfl⟩
    have hf := zlet_at ey_2 hf
    refine z_iinc (v := y_2) (lv' := [(1, .int y_2), (0, .int x0)]) C d_Md_greatest_11 (k := 1) rfl (by rw [ey_2]; rfl) (by decide) rfl ?_
    refine z_goto (tgt := 3) C d_Md_greatest_14 (by decide) ?_
    refine z_lv [1, 0] rfl ?_
    cases hf
    exact hK
theorem k_Md_greatest_l3_run {p : Program} {l : Launch} {e : Env} {s : State} {m : MethodId} {args : Array Value} {below : List Frame} {meth : Method} {c : Code} {D : va_G} {cI cL : ClassId} {rr x0 x1 : Int32} (C : zC p s m args meth c b_Md_greatest 2 R_Md D vwCl [(cI, .int), (cL, .long)] (zA [] s.heap.size)) (hr : meth.sig.returnType = some .int) {o0 : Int32} (hf : zloop (fun q => f_Md_greatest_l3 x0 q) zF (x1) = some o0) (hK : ZV p l e rm_Md_greatest s m args below meth c 2 D (some (.int rr)) [] [] [] 17 [(1, .int o0)] []) : ZV p l e rm_Md_greatest s m args below meth c 2 D (some (.int rr)) [] [] [] 3 [(0, .int x0), (1, .int x1)] [] :=
  zloop_run (P := fun q => ZV p l e rm_Md_greatest s m args below meth c 2 D (some (.int rr)) [] [] [] 3 [(0, .int x0), (1, .int q)] []) (K := (fun q => ZV p l e rm_Md_greatest s m args below meth c 2 D (some (.int rr)) [] [] [] 17 [(1, .int q)] [])) (fun q z hz hK => k_Md_greatest_l3 C hr hz hK) zF _ (o0) hf hK
/-- PathSumsModel.greatest(I)I -/
def f_Md_greatest (x0 : Int32) : Option (Int32) :=
  zb1 (zloop (fun q => f_Md_greatest_l3 x0 q) zF ((23 : Int32))) fun y_1 =>
  some (y_1)
set_option maxRecDepth 100000 in
set_option maxHeartbeats 4000000 in
theorem k_Md_greatest {p : Program} {l : Launch} {e : Env} {s : State} {m : MethodId} {args : Array Value} {below : List Frame} {meth : Method} {c : Code} {D : va_G} {cI cL : ClassId} {rr x0 : Int32} (C : zC p s m args meth c b_Md_greatest 2 R_Md D vwCl [(cI, .int), (cL, .long)] (zA [] s.heap.size)) (hr : meth.sig.returnType = some .int) (hf : f_Md_greatest x0 = some rr) : ZV p l e rm_Md_greatest s m args below meth c 2 D (some (.int rr)) [] [] [] 0 [(0, .int x0)] [] := by
  unfold f_Md_greatest at hf
  refine z_bipush (v := 23) C d_Md_greatest_0 (by decide) ?_
  refine z_istore_n (lv' := [(1, .int (23 : Int32)), (0, .int x0)]) C d_Md_greatest_2 rfl (by decide) rfl ?_
  refine z_lv [1, 0] rfl ?_
  obtain ⟨y_1, h_2, hf⟩ := zb1_elim hf
  refine k_Md_greatest_l3_run C hr h_2 ?_
  refine z_iload_n C d_Md_greatest_17 rfl 0 rfl ?_
  cases hf
  exact z_iret C hr d_Md_greatest_18
theorem c_Md_greatest {l : Launch} {D : va_G} {cI cL : ClassId} {rr x0 : Int32} (hf : f_Md_greatest x0 = some rr) : zM l y_Md_greatest (Cond.code y_Md_greatest b_Md_greatest 2 (some .int) :: zT) rm_Md_greatest D vwCl [(cI, .int), (cL, .long)] [.int x0] [] [] (some (.int rr)) :=
  zM.intro (by decide) rfl (fun _ h => List.mem_cons_of_mem _ h) (Nat.le_of_ble_eq_true rfl) (fun _ _ _ _ _ _ _ C hr _ => k_Md_greatest C hr hf)
def rm_Md_become : Room := { frames := 3, cells := 0, slots := 0, locals := 74 }
def f_Md_become_l16 (x1 : Int32) (x2 : Int32) (x3 : Int32) (x5 : Int32) (v_wires : Int32) (v_there : Int32) (v_number : Nat → Int32) (v_set : Nat → Int32) (v_constant : Nat → Int32) (x4 : Int32) (x6 : Int32) (v_oldSet : Nat → Int32) (v_oldNumber : Nat → Int32) : Option ((Int32 × Int32 × (Nat → Int32) × (Nat → Int32)) ⊕ (Int32 × (Nat → Int32) × (Nat → Int32))) :=
  if x5 < x6 then (
    some (.inr (x4, v_oldSet, v_oldNumber)))
  else (
    zlet ((((1 : Int32) <<< (x5 &&& 31)) ||| ((1 : Int32) <<< (x6 &&& 31))) &&& (((1 : Int32) <<< (x1 &&& 31)) ^^^ (-1 : Int32))) fun y_2 =>
    if x5 = x1 then (
      if x6 = x1 then (
        zb1 (f_Md_numberOf (y_2 ||| ((1 : Int32) <<< (x1 &&& 31))) v_number) fun r_6 =>
        if r_6 = 0 then (
          zlet (x6 + 1) fun y_8 =>
          some (.inl (x4, y_8, v_oldSet, v_oldNumber)))
        else (
          if x4 < 0 ∨ 300 ≤ x4.toNatClampNeg then none else
          zlet (upd v_oldSet x4.toNatClampNeg y_2) fun u_10 =>
          if x4 < 0 ∨ 300 ≤ x4.toNatClampNeg then none else
          zlet (upd v_oldNumber x4.toNatClampNeg r_6) fun u_12 =>
          zlet (x4 + 1) fun y_13 =>
          zlet (x6 + 1) fun y_14 =>
          some (.inl (y_13, y_14, u_10, u_12))))
      else (
        zb1 (f_Md_numberOf (y_2 ||| ((1 : Int32) <<< (x1 &&& 31))) v_number) fun r_16 =>
        zlet (x6 + 1) fun y_17 =>
        some (.inl (x4, y_17, v_oldSet, v_oldNumber))))
    else (
      if x6 = x1 then (
        zb1 (f_Md_numberOf (y_2 ||| ((1 : Int32) <<< (x1 &&& 31))) v_number) fun r_20 =>
        zlet (x6 + 1) fun y_21 =>
        some (.inl (x4, y_21, v_oldSet, v_oldNumber)))
      else (
        zb1 (f_Md_numberOf (y_2 ||| ((1 : Int32) <<< (x1 &&& 31))) v_number) fun r_23 =>
        if r_23 = 0 then (
          zlet (x6 + 1) fun y_25 =>
          some (.inl (x4, y_25, v_oldSet, v_oldNumber)))
        else (
          if x4 < 0 ∨ 300 ≤ x4.toNatClampNeg then none else
          zlet (upd v_oldSet x4.toNatClampNeg y_2) fun u_27 =>
          if x4 < 0 ∨ 300 ≤ x4.toNatClampNeg then none else
          zlet (upd v_oldNumber x4.toNatClampNeg r_23) fun u_29 =>
          zlet (x4 + 1) fun y_30 =>
          zlet (x6 + 1) fun y_31 =>
          some (.inl (y_30, y_31, u_27, u_29))))))
set_option maxRecDepth 100000 in
set_option maxHeartbeats 4000000 in
theorem k_Md_become_l16 {p : Program} {l : Launch} {e : Env} {s : State} {m : MethodId} {args : Array Value} {below : List Frame} {meth : Method} {c : Code} {D : va_G} {cI cL : ClassId} {h_this h_this_number h_this_set h_this_constant h_this_ruleKind h_this_ruleBit h_this_ruleOther h_this_oldSet h_this_oldNumber h_this_allSets h_this_allNumbers h_this_root : Nat} {v_thrown v_wires v_isOpen v_isEmpty v_came v_there v_halves v_rules v_alone v_halfBits v_allMany o_there x1 x2 x3 x4 x5 x6 : Int32} {v_number v_oldSet v_oldNumber v_set v_constant o_number o_oldSet o_oldNumber o_set o_constant : Nat → Int32} (C : zC p s m args meth c b_Md_become 10 R_Md D vwCl [(cI, .int), (cL, .long)] (zA [h_this, h_this_number, h_this_oldSet, h_this_oldNumber, h_this_set, h_this_constant] s.heap.size)) (hr : meth.sig.returnType = none) {z : (Int32 × Int32 × (Nat → Int32) × (Nat → Int32)) ⊕ (Int32 × (Nat → Int32) × (Nat → Int32))} (hf : f_Md_become_l16 x1 x2 x3 x5 v_wires v_there v_number v_set v_constant x4 x6 v_oldSet v_oldNumber = some z) (hK : zcase (fun q => ZV p l e rm_Md_become s m args below meth c 10 D (none) [(h_this, .inr (5, [.int v_thrown, .int v_wires, .int v_isOpen, .int v_isEmpty, .int v_came, .int o_there, .int v_halves, .ref h_this_number, .ref h_this_set, .ref h_this_constant, .int v_rules, .ref h_this_ruleKind, .ref h_this_ruleBit, .ref h_this_ruleOther, .int v_alone, .int v_halfBits, .ref h_this_oldSet, .ref h_this_oldNumber, .ref h_this_allSets, .ref h_this_allNumbers, .int v_allMany, .ref h_this_root])), (h_this_number, .inl (cI, 15625, .inl o_number)), (h_this_oldSet, .inl (cI, 300, .inl o_oldSet)), (h_this_oldNumber, .inl (cI, 300, .inl o_oldNumber)), (h_this_set, .inl (cI, 6, .inl o_set)), (h_this_constant, .inl (cI, 6, .inl o_constant))] [h_this, h_this_number, h_this_oldSet, h_this_oldNumber, h_this_set, h_this_constant] [(h_this, .inr (5, [.int v_thrown, .int v_wires, .int v_isOpen, .int v_isEmpty, .int v_came, .int v_there, .int v_halves, .ref h_this_number, .ref h_this_set, .ref h_this_constant, .int v_rules, .ref h_this_ruleKind, .ref h_this_ruleBit, .ref h_this_ruleOther, .int v_alone, .int v_halfBits, .ref h_this_oldSet, .ref h_this_oldNumber, .ref h_this_allSets, .ref h_this_allNumbers, .int v_allMany, .ref h_this_root])), (h_this_number, .inl (cI, 15625, .inl v_number)), (h_this_oldSet, .inl (cI, 300, .inl q.2.2.1)), (h_this_oldNumber, .inl (cI, 300, .inl q.2.2.2)), (h_this_set, .inl (cI, 6, .inl v_set)), (h_this_constant, .inl (cI, 6, .inl v_constant))] 16 [(0, .ref h_this), (1, .int x1), (2, .int x2), (3, .int x3), (4, .int q.1), (5, .int x5), (6, .int q.2.1)] []) (fun q => ZV p l e rm_Md_become s m args below meth c 10 D (none) [(h_this, .inr (5, [.int v_thrown, .int v_wires, .int v_isOpen, .int v_isEmpty, .int v_came, .int o_there, .int v_halves, .ref h_this_number, .ref h_this_set, .ref h_this_constant, .int v_rules, .ref h_this_ruleKind, .ref h_this_ruleBit, .ref h_this_ruleOther, .int v_alone, .int v_halfBits, .ref h_this_oldSet, .ref h_this_oldNumber, .ref h_this_allSets, .ref h_this_allNumbers, .int v_allMany, .ref h_this_root])), (h_this_number, .inl (cI, 15625, .inl o_number)), (h_this_oldSet, .inl (cI, 300, .inl o_oldSet)), (h_this_oldNumber, .inl (cI, 300, .inl o_oldNumber)), (h_this_set, .inl (cI, 6, .inl o_set)), (h_this_constant, .inl (cI, 6, .inl o_constant))] [h_this, h_this_number, h_this_oldSet, h_this_oldNumber, h_this_set, h_this_constant] [(h_this, .inr (5, [.int v_thrown, .int v_wires, .int v_isOpen, .int v_isEmpty, .int v_came, .int v_there, .int v_halves, .ref h_this_number, .ref h_this_set, .ref h_this_constant, .int v_rules, .ref h_this_ruleKind, .ref h_this_ruleBit, .ref h_this_ruleOther, .int v_alone, .int v_halfBits, .ref h_this_oldSet, .ref h_this_oldNumber, .ref h_this_allSets, .ref h_this_allNumbers, .int v_allMany, .ref h_this_root])), (h_this_number, .inl (cI, 15625, .inl v_number)), (h_this_oldSet, .inl (cI, 300, .inl q.2.1)), (h_this_oldNumber, .inl (cI, 300, .inl q.2.2)), (h_this_set, .inl (cI, 6, .inl v_set)), (h_this_constant, .inl (cI, 6, .inl v_constant))] 125 [(0, .ref h_this), (1, .int x1), (2, .int x2), (3, .int x3), (4, .int q.1), (5, .int x5)] []) z) : ZV p l e rm_Md_become s m args below meth c 10 D (none) [(h_this, .inr (5, [.int v_thrown, .int v_wires, .int v_isOpen, .int v_isEmpty, .int v_came, .int o_there, .int v_halves, .ref h_this_number, .ref h_this_set, .ref h_this_constant, .int v_rules, .ref h_this_ruleKind, .ref h_this_ruleBit, .ref h_this_ruleOther, .int v_alone, .int v_halfBits, .ref h_this_oldSet, .ref h_this_oldNumber, .ref h_this_allSets, .ref h_this_allNumbers, .int v_allMany, .ref h_this_root])), (h_this_number, .inl (cI, 15625, .inl o_number)), (h_this_oldSet, .inl (cI, 300, .inl o_oldSet)), (h_this_oldNumber, .inl (cI, 300, .inl o_oldNumber)), (h_this_set, .inl (cI, 6, .inl o_set)), (h_this_constant, .inl (cI, 6, .inl o_constant))] [h_this, h_this_number, h_this_oldSet, h_this_oldNumber, h_this_set, h_this_constant] [(h_this, .inr (5, [.int v_thrown, .int v_wires, .int v_isOpen, .int v_isEmpty, .int v_came, .int v_there, .int v_halves, .ref h_this_number, .ref h_this_set, .ref h_this_constant, .int v_rules, .ref h_this_ruleKind, .ref h_this_ruleBit, .ref h_this_ruleOther, .int v_alone, .int v_halfBits, .ref h_this_oldSet, .ref h_this_oldNumber, .ref h_this_allSets, .ref h_this_allNumbers, .int v_allMany, .ref h_this_root])), (h_this_number, .inl (cI, 15625, .inl v_number)), (h_this_oldSet, .inl (cI, 300, .inl v_oldSet)), (h_this_oldNumber, .inl (cI, 300, .inl v_oldNumber)), (h_this_set, .inl (cI, 6, .inl v_set)), (h_this_constant, .inl (cI, 6, .inl v_constant))] 16 [(0, .ref h_this), (1, .int x1), (2, .int x2), (3, .int x3), (4, .int x4), (5, .int x5), (6, .int x6)] [] := by
  unfold f_Md_become_l16 at hf
  refine z_iload C d_Md_become_16 6 rfl ?_
  refine z_iload C d_Md_become_18 5 rfl ?_
  refine z_icmp_gt (tgt := 125) C d_Md_become_20 (by decide) (fun c_1 => ?_) (fun c_1 => ?_)
  · have hf := zif_pos c_1 hf
    refine z_lv [0, 1, 2, 3, 4, 5] rfl ?_
    cases hf
    exact hK
  · have hf := zif_neg c_1 hf
    refine z_iconst (v := 1) C d_Md_become_23 (by decide) ?_
    refine z_iload C d_Md_become_24 5 rfl ?_
    refine z_ishl C d_Md_become_26 ?_
    refine z_iconst (v := 1) C d_Md_become_27 (by decide) ?_
    refine z_iload C d_Md_become_28 6 rfl ?_
    refine z_ishl C d_Md_become_30 ?_
    refine z_ior C d_Md_become_31 ?_
    refine z_iconst (v := 1) C d_Md_become_32 (by decide) ?_
    refine z_iload_n C d_Md_become_33 rfl 1 rfl ?_
    refine z_ishl C d_Md_become_34 ?_
    refine z_iconst (v := -1) C d_Md_become_35 (by decide) ?_
    refine z_ixor C d_Md_become_36 ?_
    refine z_iand C d_Md_become_37 ?_
    refine z_topi (fun y_2 ey_2 => ?_)
    have hf := zlet_at ey_2 hf
    refine z_istore (lv' := [(7, .int y_2), (0, .ref h_this), (1, .int x1), (2, .int x2), (3, .int x3), (4, .int x4), (5, .int x5), (6, .int x6)]) C d_Md_become_38 (by decide) rfl ?_
    refine z_iload C d_Md_become_40 6 rfl ?_
    refine z_iload_n C d_Md_become_42 rfl 2 rfl ?_
    refine z_icmp_ne (tgt := 60) C d_Md_become_43 (by decide) (fun c_3 => ?_) (fun c_3 => ?_)
    · have hf := zif_neg c_3 hf
      refine z_iload C d_Md_become_60 7 rfl ?_
      refine z_iload_n C d_Md_become_62 rfl 2 rfl ?_
      refine z_icmp_eq (tgt := 70) C d_Md_become_63 (by decide) (fun c_18 => ?_) (fun c_18 => ?_)
      · have hf := zif_pos c_18 hf
        refine z_iconst (v := 0) C d_Md_become_70 (by decide) ?_
        refine z_istore (lv' := [(8, .int (0 : Int32)), (7, .int y_2), (0, .ref h_this), (1, .int x1), (2, .int x2), (3, .int x3), (4, .int x4), (5, .int x5), (6, .int x6)]) C d_Md_become_71 (by decide) rfl ?_
        refine z_aload_n C d_Md_become_73 rfl 2 rfl ?_
        refine z_iload C d_Md_become_74 1 rfl ?_
        refine z_iconst (v := 1) C d_Md_become_76 (by decide) ?_
        refine z_iload_n C d_Md_become_77 rfl 3 rfl ?_
        refine z_ishl C d_Md_become_78 ?_
        refine z_ior C d_Md_become_79 ?_
        obtain ⟨r_20, h_19, hf⟩ := zb1_elim hf
        refine z_callV (As := [.int (y_2 ||| ((1 : Int32) <<< (x1 &&& 31)))]) (rest := []) (ws' := [(h_this, .inr (5, [.int v_thrown, .int v_wires, .int v_isOpen, .int v_isEmpty, .int v_came, .int v_there, .int v_halves, .ref h_this_number, .ref h_this_set, .ref h_this_constant, .int v_rules, .ref h_this_ruleKind, .ref h_this_ruleBit, .ref h_this_ruleOther, .int v_alone, .int v_halfBits, .ref h_this_oldSet, .ref h_this_oldNumber, .ref h_this_allSets, .ref h_this_allNumbers, .int v_allMany, .ref h_this_root])), (h_this_number, .inl (cI, 15625, .inl v_number)), (h_this_oldSet, .inl (cI, 300, .inl v_oldSet)), (h_this_oldNumber, .inl (cI, 300, .inl v_oldNumber)), (h_this_set, .inl (cI, 6, .inl v_set)), (h_this_constant, .inl (cI, 6, .inl v_constant))]) C (c_Md_numberOf h_19) mi_Md_numberOf zw_646 (by decide) 0 rfl rfl [0, 1] (by decide) rfl rfl rfl rfl rfl (by decide) ⟨Nat.zero_le _, Nat.zero_le _⟩ d_Md_become_80 ?_
        refine z_istore (lv' := [(9, .int r_20), (8, .int (0 : Int32)), (7, .int y_2), (0, .ref h_this), (1, .int x1), (2, .int x2), (3, .int x3), (4, .int x4), (5, .int x5), (6, .int x6)]) C d_Md_become_83 (by decide) rfl ?_
        refine z_iload C d_Md_become_85 1 rfl ?_
        refine z_if_eq (tgt := 119) C d_Md_become_87 (by decide) (fun _ => ?_) (fun c => absurd c (by decide))
        obtain ⟨y_21, ey_21⟩ : ∃ y : Int32, y = x6 + 1 := ⟨_, rfl⟩
        have hf := zlet_at ey_21 hf
        refine z_iinc (v := y_21) (lv' := [(6, .int y_21), (9, .int r_20), (8, .int (0 : Int32)), (7, .int y_2), (0, .ref h_this), (1, .int x1), (2, .int x2), (3, .int x3), (4, .int x4), (5, .int x5)]) C d_Md_become_119 (k := 9) rfl (by rw [ey_21]; rfl) (by decide) rfl ?_
        refine z_goto (tgt := 16) C d_Md_become_122 (by decide) ?_
        refine z_lv [4, 5, 6, 7, 8, 9, 0] rfl ?_
        cases hf
        exact hK
      · have hf := zif_neg c_18 hf
        refine z_iconst (v := 1) C d_Md_become_66 (by decide) ?_
        refine z_goto (tgt := 71) C d_Md_become_67 (by decide) ?_
        refine z_istore (lv' := [(8, .int (1 : Int32)), (7, .int y_2), (0, .ref h_this), (1, .int x1), (2, .int x2), (3, .int x3), (4, .int x4), (5, .int x5), (6, .int x6)]) C d_Md_become_71 (by decide) rfl ?_
        refine z_aload_n C d_Md_become_73 rfl 2 rfl ?_
        refine z_iload C d_Md_become_74 1 rfl ?_
        refine z_iconst (v := 1) C d_Md_become_76 (by decide) ?_
        refine z_iload_n C d_Md_become_77 rfl 3 rfl ?_
        refine z_ishl C d_Md_become_78 ?_
        refine z_ior C d_Md_become_79 ?_
        obtain ⟨r_23, h_22, hf⟩ := zb1_elim hf
        refine z_callV (As := [.int (y_2 ||| ((1 : Int32) <<< (x1 &&& 31)))]) (rest := []) (ws' := [(h_this, .inr (5, [.int v_thrown, .int v_wires, .int v_isOpen, .int v_isEmpty, .int v_came, .int v_there, .int v_halves, .ref h_this_number, .ref h_this_set, .ref h_this_constant, .int v_rules, .ref h_this_ruleKind, .ref h_this_ruleBit, .ref h_this_ruleOther, .int v_alone, .int v_halfBits, .ref h_this_oldSet, .ref h_this_oldNumber, .ref h_this_allSets, .ref h_this_allNumbers, .int v_allMany, .ref h_this_root])), (h_this_number, .inl (cI, 15625, .inl v_number)), (h_this_oldSet, .inl (cI, 300, .inl v_oldSet)), (h_this_oldNumber, .inl (cI, 300, .inl v_oldNumber)), (h_this_set, .inl (cI, 6, .inl v_set)), (h_this_constant, .inl (cI, 6, .inl v_constant))]) C (c_Md_numberOf h_22) mi_Md_numberOf zw_646 (by decide) 0 rfl rfl [0, 1] (by decide) rfl rfl rfl rfl rfl (by decide) ⟨Nat.zero_le _, Nat.zero_le _⟩ d_Md_become_80 ?_
        refine z_istore (lv' := [(9, .int r_23), (8, .int (1 : Int32)), (7, .int y_2), (0, .ref h_this), (1, .int x1), (2, .int x2), (3, .int x3), (4, .int x4), (5, .int x5), (6, .int x6)]) C d_Md_become_83 (by decide) rfl ?_
        refine z_iload C d_Md_become_85 1 rfl ?_
        refine z_if_eq (tgt := 119) C d_Md_become_87 (by decide) (fun c => absurd c (by decide)) (fun _ => ?_)
        refine z_iload C d_Md_become_90 0 rfl ?_
        refine z_if_ne (tgt := 98) C d_Md_become_92 (by decide) (fun c_24 => ?_) (fun c_24 => ?_)
        · have hf := zif_neg c_24 hf
          refine z_aload_n C d_Md_become_98 rfl 3 rfl ?_
          refine z_get C iw_Md 0 rfl rfl 16 (by decide) zw_514 rfl d_Md_become_99 ?_
          refine z_iload C d_Md_become_102 7 rfl ?_
          refine z_iload C d_Md_become_104 2 rfl ?_
          obtain ⟨g_26, hf⟩ := zguard hf
          obtain ⟨u_27, eu_27⟩ : ∃ u : Nat → Int32, u = upd v_oldSet x4.toNatClampNeg y_2 := ⟨_, rfl⟩
          have hf := zlet_at eu_27 hf
          refine z_iast (ws' := [(h_this, .inr (5, [.int v_thrown, .int v_wires, .int v_isOpen, .int v_isEmpty, .int v_came, .int v_there, .int v_halves, .ref h_this_number, .ref h_this_set, .ref h_this_constant, .int v_rules, .ref h_this_ruleKind, .ref h_this_ruleBit, .ref h_this_ruleOther, .int v_alone, .int v_halfBits, .ref h_this_oldSet, .ref h_this_oldNumber, .ref h_this_allSets, .ref h_this_allNumbers, .int v_allMany, .ref h_this_root])), (h_this_number, .inl (cI, 15625, .inl v_number)), (h_this_oldSet, .inl (cI, 300, .inl u_27)), (h_this_oldNumber, .inl (cI, 300, .inl v_oldNumber)), (h_this_set, .inl (cI, 6, .inl v_set)), (h_this_constant, .inl (cI, 6, .inl v_constant))]) C 2 0 rfl rfl g_26 d_Md_become_106 (by rw [eu_27]; rfl) ?_
          refine z_aload_n C d_Md_become_107 rfl 3 rfl ?_
          refine z_get C iw_Md 0 rfl rfl 17 (by decide) zw_515 rfl d_Md_become_108 ?_
          refine z_iload C d_Md_become_111 7 rfl ?_
          refine z_iload C d_Md_become_113 0 rfl ?_
          obtain ⟨g_28, hf⟩ := zguard hf
          obtain ⟨u_29, eu_29⟩ : ∃ u : Nat → Int32, u = upd v_oldNumber x4.toNatClampNeg r_23 := ⟨_, rfl⟩
          have hf := zlet_at eu_29 hf
          refine z_iast (ws' := [(h_this, .inr (5, [.int v_thrown, .int v_wires, .int v_isOpen, .int v_isEmpty, .int v_came, .int v_there, .int v_halves, .ref h_this_number, .ref h_this_set, .ref h_this_constant, .int v_rules, .ref h_this_ruleKind, .ref h_this_ruleBit, .ref h_this_ruleOther, .int v_alone, .int v_halfBits, .ref h_this_oldSet, .ref h_this_oldNumber, .ref h_this_allSets, .ref h_this_allNumbers, .int v_allMany, .ref h_this_root])), (h_this_number, .inl (cI, 15625, .inl v_number)), (h_this_oldSet, .inl (cI, 300, .inl u_27)), (h_this_oldNumber, .inl (cI, 300, .inl u_29)), (h_this_set, .inl (cI, 6, .inl v_set)), (h_this_constant, .inl (cI, 6, .inl v_constant))]) C 3 0 rfl rfl g_28 d_Md_become_115 (by rw [eu_29]; rfl) ?_
          obtain ⟨y_30, ey_30⟩ : ∃ y : Int32, y = x4 + 1 := ⟨_, rfl⟩
          have hf := zlet_at ey_30 hf
          refine z_iinc (v := y_30) (lv' := [(4, .int y_30), (9, .int r_23), (8, .int (1 : Int32)), (7, .int y_2), (0, .ref h_this), (1, .int x1), (2, .int x2), (3, .int x3), (5, .int x5), (6, .int x6)]) C d_Md_become_116 (k := 7) rfl (by rw [ey_30]; rfl) (by decide) rfl ?_
          obtain ⟨y_31, ey_31⟩ : ∃ y : Int32, y = x6 + 1 := ⟨_, rfl⟩
          have hf := zlet_at ey_31 hf
          refine z_iinc (v := y_31) (lv' := [(6, .int y_31), (4, .int y_30), (9, .int r_23), (8, .int (1 : Int32)), (7, .int y_2), (0, .ref h_this), (1, .int x1), (2, .int x2), (3, .int x3), (5, .int x5)]) C d_Md_become_119 (k := 9) rfl (by rw [ey_31]; rfl) (by decide) rfl ?_
          refine z_goto (tgt := 16) C d_Md_become_122 (by decide) ?_
          refine z_lv [5, 6, 7, 8, 1, 9, 0] rfl ?_
          cases hf
          exact hK
        · have hf := zif_pos c_24 hf
          refine z_goto (tgt := 119) C d_Md_become_95 (by decide) ?_
          obtain ⟨y_25, ey_25⟩ : ∃ y : Int32, y = x6 + 1 := ⟨_, rfl⟩
          have hf := zlet_at ey_25 hf
          refine z_iinc (v := y_25) (lv' := [(6, .int y_25), (9, .int r_23), (8, .int (1 : Int32)), (7, .int y_2), (0, .ref h_this), (1, .int x1), (2, .int x2), (3, .int x3), (4, .int x4), (5, .int x5)]) C d_Md_become_119 (k := 9) rfl (by rw [ey_25]; rfl) (by decide) rfl ?_
          refine z_goto (tgt := 16) C d_Md_become_122 (by decide) ?_
          refine z_lv [4, 5, 6, 7, 8, 9, 0] rfl ?_
          cases hf
          exact hK
    · have hf := zif_pos c_3 hf
      refine z_iload C d_Md_become_46 7 rfl ?_
      refine z_iload_n C d_Md_become_48 rfl 2 rfl ?_
      refine z_icmp_ne (tgt := 56) C d_Md_become_49 (by decide) (fun c_4 => ?_) (fun c_4 => ?_)
      · have hf := zif_neg c_4 hf
        refine z_iconst (v := 0) C d_Md_become_56 (by decide) ?_
        refine z_goto (tgt := 71) C d_Md_become_57 (by decide) ?_
        refine z_istore (lv' := [(8, .int (0 : Int32)), (7, .int y_2), (0, .ref h_this), (1, .int x1), (2, .int x2), (3, .int x3), (4, .int x4), (5, .int x5), (6, .int x6)]) C d_Md_become_71 (by decide) rfl ?_
        refine z_aload_n C d_Md_become_73 rfl 2 rfl ?_
        refine z_iload C d_Md_become_74 1 rfl ?_
        refine z_iconst (v := 1) C d_Md_become_76 (by decide) ?_
        refine z_iload_n C d_Md_become_77 rfl 3 rfl ?_
        refine z_ishl C d_Md_become_78 ?_
        refine z_ior C d_Md_become_79 ?_
        obtain ⟨r_16, h_15, hf⟩ := zb1_elim hf
        refine z_callV (As := [.int (y_2 ||| ((1 : Int32) <<< (x1 &&& 31)))]) (rest := []) (ws' := [(h_this, .inr (5, [.int v_thrown, .int v_wires, .int v_isOpen, .int v_isEmpty, .int v_came, .int v_there, .int v_halves, .ref h_this_number, .ref h_this_set, .ref h_this_constant, .int v_rules, .ref h_this_ruleKind, .ref h_this_ruleBit, .ref h_this_ruleOther, .int v_alone, .int v_halfBits, .ref h_this_oldSet, .ref h_this_oldNumber, .ref h_this_allSets, .ref h_this_allNumbers, .int v_allMany, .ref h_this_root])), (h_this_number, .inl (cI, 15625, .inl v_number)), (h_this_oldSet, .inl (cI, 300, .inl v_oldSet)), (h_this_oldNumber, .inl (cI, 300, .inl v_oldNumber)), (h_this_set, .inl (cI, 6, .inl v_set)), (h_this_constant, .inl (cI, 6, .inl v_constant))]) C (c_Md_numberOf h_15) mi_Md_numberOf zw_646 (by decide) 0 rfl rfl [0, 1] (by decide) rfl rfl rfl rfl rfl (by decide) ⟨Nat.zero_le _, Nat.zero_le _⟩ d_Md_become_80 ?_
        refine z_istore (lv' := [(9, .int r_16), (8, .int (0 : Int32)), (7, .int y_2), (0, .ref h_this), (1, .int x1), (2, .int x2), (3, .int x3), (4, .int x4), (5, .int x5), (6, .int x6)]) C d_Md_become_83 (by decide) rfl ?_
        refine z_iload C d_Md_become_85 1 rfl ?_
        refine z_if_eq (tgt := 119) C d_Md_become_87 (by decide) (fun _ => ?_) (fun c => absurd c (by decide))
        obtain ⟨y_17, ey_17⟩ : ∃ y : Int32, y = x6 + 1 := ⟨_, rfl⟩
        have hf := zlet_at ey_17 hf
        refine z_iinc (v := y_17) (lv' := [(6, .int y_17), (9, .int r_16), (8, .int (0 : Int32)), (7, .int y_2), (0, .ref h_this), (1, .int x1), (2, .int x2), (3, .int x3), (4, .int x4), (5, .int x5)]) C d_Md_become_119 (k := 9) rfl (by rw [ey_17]; rfl) (by decide) rfl ?_
        refine z_goto (tgt := 16) C d_Md_become_122 (by decide) ?_
        refine z_lv [4, 5, 6, 7, 8, 9, 0] rfl ?_
        cases hf
        exact hK
      · have hf := zif_pos c_4 hf
        refine z_iconst (v := 1) C d_Md_become_52 (by decide) ?_
        refine z_goto (tgt := 71) C d_Md_become_53 (by decide) ?_
        refine z_istore (lv' := [(8, .int (1 : Int32)), (7, .int y_2), (0, .ref h_this), (1, .int x1), (2, .int x2), (3, .int x3), (4, .int x4), (5, .int x5), (6, .int x6)]) C d_Md_become_71 (by decide) rfl ?_
        refine z_aload_n C d_Md_become_73 rfl 2 rfl ?_
        refine z_iload C d_Md_become_74 1 rfl ?_
        refine z_iconst (v := 1) C d_Md_become_76 (by decide) ?_
        refine z_iload_n C d_Md_become_77 rfl 3 rfl ?_
        refine z_ishl C d_Md_become_78 ?_
        refine z_ior C d_Md_become_79 ?_
        obtain ⟨r_6, h_5, hf⟩ := zb1_elim hf
        refine z_callV (As := [.int (y_2 ||| ((1 : Int32) <<< (x1 &&& 31)))]) (rest := []) (ws' := [(h_this, .inr (5, [.int v_thrown, .int v_wires, .int v_isOpen, .int v_isEmpty, .int v_came, .int v_there, .int v_halves, .ref h_this_number, .ref h_this_set, .ref h_this_constant, .int v_rules, .ref h_this_ruleKind, .ref h_this_ruleBit, .ref h_this_ruleOther, .int v_alone, .int v_halfBits, .ref h_this_oldSet, .ref h_this_oldNumber, .ref h_this_allSets, .ref h_this_allNumbers, .int v_allMany, .ref h_this_root])), (h_this_number, .inl (cI, 15625, .inl v_number)), (h_this_oldSet, .inl (cI, 300, .inl v_oldSet)), (h_this_oldNumber, .inl (cI, 300, .inl v_oldNumber)), (h_this_set, .inl (cI, 6, .inl v_set)), (h_this_constant, .inl (cI, 6, .inl v_constant))]) C (c_Md_numberOf h_5) mi_Md_numberOf zw_646 (by decide) 0 rfl rfl [0, 1] (by decide) rfl rfl rfl rfl rfl (by decide) ⟨Nat.zero_le _, Nat.zero_le _⟩ d_Md_become_80 ?_
        refine z_istore (lv' := [(9, .int r_6), (8, .int (1 : Int32)), (7, .int y_2), (0, .ref h_this), (1, .int x1), (2, .int x2), (3, .int x3), (4, .int x4), (5, .int x5), (6, .int x6)]) C d_Md_become_83 (by decide) rfl ?_
        refine z_iload C d_Md_become_85 1 rfl ?_
        refine z_if_eq (tgt := 119) C d_Md_become_87 (by decide) (fun c => absurd c (by decide)) (fun _ => ?_)
        refine z_iload C d_Md_become_90 0 rfl ?_
        refine z_if_ne (tgt := 98) C d_Md_become_92 (by decide) (fun c_7 => ?_) (fun c_7 => ?_)
        · have hf := zif_neg c_7 hf
          refine z_aload_n C d_Md_become_98 rfl 3 rfl ?_
          refine z_get C iw_Md 0 rfl rfl 16 (by decide) zw_514 rfl d_Md_become_99 ?_
          refine z_iload C d_Md_become_102 7 rfl ?_
          refine z_iload C d_Md_become_104 2 rfl ?_
          obtain ⟨g_9, hf⟩ := zguard hf
          obtain ⟨u_10, eu_10⟩ : ∃ u : Nat → Int32, u = upd v_oldSet x4.toNatClampNeg y_2 := ⟨_, rfl⟩
          have hf := zlet_at eu_10 hf
          refine z_iast (ws' := [(h_this, .inr (5, [.int v_thrown, .int v_wires, .int v_isOpen, .int v_isEmpty, .int v_came, .int v_there, .int v_halves, .ref h_this_number, .ref h_this_set, .ref h_this_constant, .int v_rules, .ref h_this_ruleKind, .ref h_this_ruleBit, .ref h_this_ruleOther, .int v_alone, .int v_halfBits, .ref h_this_oldSet, .ref h_this_oldNumber, .ref h_this_allSets, .ref h_this_allNumbers, .int v_allMany, .ref h_this_root])), (h_this_number, .inl (cI, 15625, .inl v_number)), (h_this_oldSet, .inl (cI, 300, .inl u_10)), (h_this_oldNumber, .inl (cI, 300, .inl v_oldNumber)), (h_this_set, .inl (cI, 6, .inl v_set)), (h_this_constant, .inl (cI, 6, .inl v_constant))]) C 2 0 rfl rfl g_9 d_Md_become_106 (by rw [eu_10]; rfl) ?_
          refine z_aload_n C d_Md_become_107 rfl 3 rfl ?_
          refine z_get C iw_Md 0 rfl rfl 17 (by decide) zw_515 rfl d_Md_become_108 ?_
          refine z_iload C d_Md_become_111 7 rfl ?_
          refine z_iload C d_Md_become_113 0 rfl ?_
          obtain ⟨g_11, hf⟩ := zguard hf
          obtain ⟨u_12, eu_12⟩ : ∃ u : Nat → Int32, u = upd v_oldNumber x4.toNatClampNeg r_6 := ⟨_, rfl⟩
          have hf := zlet_at eu_12 hf
          refine z_iast (ws' := [(h_this, .inr (5, [.int v_thrown, .int v_wires, .int v_isOpen, .int v_isEmpty, .int v_came, .int v_there, .int v_halves, .ref h_this_number, .ref h_this_set, .ref h_this_constant, .int v_rules, .ref h_this_ruleKind, .ref h_this_ruleBit, .ref h_this_ruleOther, .int v_alone, .int v_halfBits, .ref h_this_oldSet, .ref h_this_oldNumber, .ref h_this_allSets, .ref h_this_allNumbers, .int v_allMany, .ref h_this_root])), (h_this_number, .inl (cI, 15625, .inl v_number)), (h_this_oldSet, .inl (cI, 300, .inl u_10)), (h_this_oldNumber, .inl (cI, 300, .inl u_12)), (h_this_set, .inl (cI, 6, .inl v_set)), (h_this_constant, .inl (cI, 6, .inl v_constant))]) C 3 0 rfl rfl g_11 d_Md_become_115 (by rw [eu_12]; rfl) ?_
          obtain ⟨y_13, ey_13⟩ : ∃ y : Int32, y = x4 + 1 := ⟨_, rfl⟩
          have hf := zlet_at ey_13 hf
          refine z_iinc (v := y_13) (lv' := [(4, .int y_13), (9, .int r_6), (8, .int (1 : Int32)), (7, .int y_2), (0, .ref h_this), (1, .int x1), (2, .int x2), (3, .int x3), (5, .int x5), (6, .int x6)]) C d_Md_become_116 (k := 7) rfl (by rw [ey_13]; rfl) (by decide) rfl ?_
          obtain ⟨y_14, ey_14⟩ : ∃ y : Int32, y = x6 + 1 := ⟨_, rfl⟩
          have hf := zlet_at ey_14 hf
          refine z_iinc (v := y_14) (lv' := [(6, .int y_14), (4, .int y_13), (9, .int r_6), (8, .int (1 : Int32)), (7, .int y_2), (0, .ref h_this), (1, .int x1), (2, .int x2), (3, .int x3), (5, .int x5)]) C d_Md_become_119 (k := 9) rfl (by rw [ey_14]; rfl) (by decide) rfl ?_
          refine z_goto (tgt := 16) C d_Md_become_122 (by decide) ?_
          refine z_lv [5, 6, 7, 8, 1, 9, 0] rfl ?_
          cases hf
          exact hK
        · have hf := zif_pos c_7 hf
          refine z_goto (tgt := 119) C d_Md_become_95 (by decide) ?_
          obtain ⟨y_8, ey_8⟩ : ∃ y : Int32, y = x6 + 1 := ⟨_, rfl⟩
          have hf := zlet_at ey_8 hf
          refine z_iinc (v := y_8) (lv' := [(6, .int y_8), (9, .int r_6), (8, .int (1 : Int32)), (7, .int y_2), (0, .ref h_this), (1, .int x1), (2, .int x2), (3, .int x3), (4, .int x4), (5, .int x5)]) C d_Md_become_119 (k := 9) rfl (by rw [ey_8]; rfl) (by decide) rfl ?_
          refine z_goto (tgt := 16) C d_Md_become_122 (by decide) ?_
          refine z_lv [4, 5, 6, 7, 8, 9, 0] rfl ?_
          cases hf
          exact hK
theorem k_Md_become_l16_run {p : Program} {l : Launch} {e : Env} {s : State} {m : MethodId} {args : Array Value} {below : List Frame} {meth : Method} {c : Code} {D : va_G} {cI cL : ClassId} {h_this h_this_number h_this_set h_this_constant h_this_ruleKind h_this_ruleBit h_this_ruleOther h_this_oldSet h_this_oldNumber h_this_allSets h_this_allNumbers h_this_root : Nat} {v_thrown v_wires v_isOpen v_isEmpty v_came v_there v_halves v_rules v_alone v_halfBits v_allMany o_there x1 x2 x3 x4 x5 x6 : Int32} {v_number v_oldSet v_oldNumber v_set v_constant o_number o_oldSet o_oldNumber o_set o_constant : Nat → Int32} (C : zC p s m args meth c b_Md_become 10 R_Md D vwCl [(cI, .int), (cL, .long)] (zA [h_this, h_this_number, h_this_oldSet, h_this_oldNumber, h_this_set, h_this_constant] s.heap.size)) (hr : meth.sig.returnType = none) {o0 : Int32} {o1 : Nat → Int32} {o2 : Nat → Int32} (hf : zloop (fun q => f_Md_become_l16 x1 x2 x3 x5 v_wires v_there v_number v_set v_constant q.1 q.2.1 q.2.2.1 q.2.2.2) zF (x4, x6, v_oldSet, v_oldNumber) = some (o0, o1, o2)) (hK : ZV p l e rm_Md_become s m args below meth c 10 D (none) [(h_this, .inr (5, [.int v_thrown, .int v_wires, .int v_isOpen, .int v_isEmpty, .int v_came, .int o_there, .int v_halves, .ref h_this_number, .ref h_this_set, .ref h_this_constant, .int v_rules, .ref h_this_ruleKind, .ref h_this_ruleBit, .ref h_this_ruleOther, .int v_alone, .int v_halfBits, .ref h_this_oldSet, .ref h_this_oldNumber, .ref h_this_allSets, .ref h_this_allNumbers, .int v_allMany, .ref h_this_root])), (h_this_number, .inl (cI, 15625, .inl o_number)), (h_this_oldSet, .inl (cI, 300, .inl o_oldSet)), (h_this_oldNumber, .inl (cI, 300, .inl o_oldNumber)), (h_this_set, .inl (cI, 6, .inl o_set)), (h_this_constant, .inl (cI, 6, .inl o_constant))] [h_this, h_this_number, h_this_oldSet, h_this_oldNumber, h_this_set, h_this_constant] [(h_this, .inr (5, [.int v_thrown, .int v_wires, .int v_isOpen, .int v_isEmpty, .int v_came, .int v_there, .int v_halves, .ref h_this_number, .ref h_this_set, .ref h_this_constant, .int v_rules, .ref h_this_ruleKind, .ref h_this_ruleBit, .ref h_this_ruleOther, .int v_alone, .int v_halfBits, .ref h_this_oldSet, .ref h_this_oldNumber, .ref h_this_allSets, .ref h_this_allNumbers, .int v_allMany, .ref h_this_root])), (h_this_number, .inl (cI, 15625, .inl v_number)), (h_this_oldSet, .inl (cI, 300, .inl o1)), (h_this_oldNumber, .inl (cI, 300, .inl o2)), (h_this_set, .inl (cI, 6, .inl v_set)), (h_this_constant, .inl (cI, 6, .inl v_constant))] 125 [(0, .ref h_this), (1, .int x1), (2, .int x2), (3, .int x3), (4, .int o0), (5, .int x5)] []) : ZV p l e rm_Md_become s m args below meth c 10 D (none) [(h_this, .inr (5, [.int v_thrown, .int v_wires, .int v_isOpen, .int v_isEmpty, .int v_came, .int o_there, .int v_halves, .ref h_this_number, .ref h_this_set, .ref h_this_constant, .int v_rules, .ref h_this_ruleKind, .ref h_this_ruleBit, .ref h_this_ruleOther, .int v_alone, .int v_halfBits, .ref h_this_oldSet, .ref h_this_oldNumber, .ref h_this_allSets, .ref h_this_allNumbers, .int v_allMany, .ref h_this_root])), (h_this_number, .inl (cI, 15625, .inl o_number)), (h_this_oldSet, .inl (cI, 300, .inl o_oldSet)), (h_this_oldNumber, .inl (cI, 300, .inl o_oldNumber)), (h_this_set, .inl (cI, 6, .inl o_set)), (h_this_constant, .inl (cI, 6, .inl o_constant))] [h_this, h_this_number, h_this_oldSet, h_this_oldNumber, h_this_set, h_this_constant] [(h_this, .inr (5, [.int v_thrown, .int v_wires, .int v_isOpen, .int v_isEmpty, .int v_came, .int v_there, .int v_halves, .ref h_this_number, .ref h_this_set, .ref h_this_constant, .int v_rules, .ref h_this_ruleKind, .ref h_this_ruleBit, .ref h_this_ruleOther, .int v_alone, .int v_halfBits, .ref h_this_oldSet, .ref h_this_oldNumber, .ref h_this_allSets, .ref h_this_allNumbers, .int v_allMany, .ref h_this_root])), (h_this_number, .inl (cI, 15625, .inl v_number)), (h_this_oldSet, .inl (cI, 300, .inl v_oldSet)), (h_this_oldNumber, .inl (cI, 300, .inl v_oldNumber)), (h_this_set, .inl (cI, 6, .inl v_set)), (h_this_constant, .inl (cI, 6, .inl v_constant))] 16 [(0, .ref h_this), (1, .int x1), (2, .int x2), (3, .int x3), (4, .int x4), (5, .int x5), (6, .int x6)] [] :=
  zloop_run (P := fun q => ZV p l e rm_Md_become s m args below meth c 10 D (none) [(h_this, .inr (5, [.int v_thrown, .int v_wires, .int v_isOpen, .int v_isEmpty, .int v_came, .int o_there, .int v_halves, .ref h_this_number, .ref h_this_set, .ref h_this_constant, .int v_rules, .ref h_this_ruleKind, .ref h_this_ruleBit, .ref h_this_ruleOther, .int v_alone, .int v_halfBits, .ref h_this_oldSet, .ref h_this_oldNumber, .ref h_this_allSets, .ref h_this_allNumbers, .int v_allMany, .ref h_this_root])), (h_this_number, .inl (cI, 15625, .inl o_number)), (h_this_oldSet, .inl (cI, 300, .inl o_oldSet)), (h_this_oldNumber, .inl (cI, 300, .inl o_oldNumber)), (h_this_set, .inl (cI, 6, .inl o_set)), (h_this_constant, .inl (cI, 6, .inl o_constant))] [h_this, h_this_number, h_this_oldSet, h_this_oldNumber, h_this_set, h_this_constant] [(h_this, .inr (5, [.int v_thrown, .int v_wires, .int v_isOpen, .int v_isEmpty, .int v_came, .int v_there, .int v_halves, .ref h_this_number, .ref h_this_set, .ref h_this_constant, .int v_rules, .ref h_this_ruleKind, .ref h_this_ruleBit, .ref h_this_ruleOther, .int v_alone, .int v_halfBits, .ref h_this_oldSet, .ref h_this_oldNumber, .ref h_this_allSets, .ref h_this_allNumbers, .int v_allMany, .ref h_this_root])), (h_this_number, .inl (cI, 15625, .inl v_number)), (h_this_oldSet, .inl (cI, 300, .inl q.2.2.1)), (h_this_oldNumber, .inl (cI, 300, .inl q.2.2.2)), (h_this_set, .inl (cI, 6, .inl v_set)), (h_this_constant, .inl (cI, 6, .inl v_constant))] 16 [(0, .ref h_this), (1, .int x1), (2, .int x2), (3, .int x3), (4, .int q.1), (5, .int x5), (6, .int q.2.1)] []) (K := (fun q => ZV p l e rm_Md_become s m args below meth c 10 D (none) [(h_this, .inr (5, [.int v_thrown, .int v_wires, .int v_isOpen, .int v_isEmpty, .int v_came, .int o_there, .int v_halves, .ref h_this_number, .ref h_this_set, .ref h_this_constant, .int v_rules, .ref h_this_ruleKind, .ref h_this_ruleBit, .ref h_this_ruleOther, .int v_alone, .int v_halfBits, .ref h_this_oldSet, .ref h_this_oldNumber, .ref h_this_allSets, .ref h_this_allNumbers, .int v_allMany, .ref h_this_root])), (h_this_number, .inl (cI, 15625, .inl o_number)), (h_this_oldSet, .inl (cI, 300, .inl o_oldSet)), (h_this_oldNumber, .inl (cI, 300, .inl o_oldNumber)), (h_this_set, .inl (cI, 6, .inl o_set)), (h_this_constant, .inl (cI, 6, .inl o_constant))] [h_this, h_this_number, h_this_oldSet, h_this_oldNumber, h_this_set, h_this_constant] [(h_this, .inr (5, [.int v_thrown, .int v_wires, .int v_isOpen, .int v_isEmpty, .int v_came, .int v_there, .int v_halves, .ref h_this_number, .ref h_this_set, .ref h_this_constant, .int v_rules, .ref h_this_ruleKind, .ref h_this_ruleBit, .ref h_this_ruleOther, .int v_alone, .int v_halfBits, .ref h_this_oldSet, .ref h_this_oldNumber, .ref h_this_allSets, .ref h_this_allNumbers, .int v_allMany, .ref h_this_root])), (h_this_number, .inl (cI, 15625, .inl v_number)), (h_this_oldSet, .inl (cI, 300, .inl q.2.1)), (h_this_oldNumber, .inl (cI, 300, .inl q.2.2)), (h_this_set, .inl (cI, 6, .inl v_set)), (h_this_constant, .inl (cI, 6, .inl v_constant))] 125 [(0, .ref h_this), (1, .int x1), (2, .int x2), (3, .int x3), (4, .int q.1), (5, .int x5)] [])) (fun q z hz hK => k_Md_become_l16 C hr hz hK) zF _ ((o0, o1, o2)) hf hK
def f_Md_become_l6 (x1 : Int32) (x2 : Int32) (x3 : Int32) (v_wires : Int32) (v_there : Int32) (v_number : Nat → Int32) (v_set : Nat → Int32) (v_constant : Nat → Int32) (x4 : Int32) (x5 : Int32) (v_oldSet : Nat → Int32) (v_oldNumber : Nat → Int32) : Option ((Int32 × Int32 × (Nat → Int32) × (Nat → Int32)) ⊕ (Int32 × (Nat → Int32) × (Nat → Int32))) :=
  if (24 : Int32) ≤ x5 then (
    some (.inr (x4, v_oldSet, v_oldNumber)))
  else (
    zb3 (zloop (fun q => f_Md_become_l16 x1 x2 x3 x5 v_wires v_there v_number v_set v_constant q.1 q.2.1 q.2.2.1 q.2.2.2) zF (x4, (0 : Int32), v_oldSet, v_oldNumber)) fun y_2 q_3 q_4 =>
    zlet (x5 + 1) fun y_6 =>
    some (.inl (y_2, y_6, q_3, q_4)))
set_option maxRecDepth 100000 in
set_option maxHeartbeats 4000000 in
theorem k_Md_become_l6 {p : Program} {l : Launch} {e : Env} {s : State} {m : MethodId} {args : Array Value} {below : List Frame} {meth : Method} {c : Code} {D : va_G} {cI cL : ClassId} {h_this h_this_number h_this_set h_this_constant h_this_ruleKind h_this_ruleBit h_this_ruleOther h_this_oldSet h_this_oldNumber h_this_allSets h_this_allNumbers h_this_root : Nat} {v_thrown v_wires v_isOpen v_isEmpty v_came v_there v_halves v_rules v_alone v_halfBits v_allMany o_there x1 x2 x3 x4 x5 : Int32} {v_number v_oldSet v_oldNumber v_set v_constant o_number o_oldSet o_oldNumber o_set o_constant : Nat → Int32} (C : zC p s m args meth c b_Md_become 10 R_Md D vwCl [(cI, .int), (cL, .long)] (zA [h_this, h_this_number, h_this_oldSet, h_this_oldNumber, h_this_set, h_this_constant] s.heap.size)) (hr : meth.sig.returnType = none) {z : (Int32 × Int32 × (Nat → Int32) × (Nat → Int32)) ⊕ (Int32 × (Nat → Int32) × (Nat → Int32))} (hf : f_Md_become_l6 x1 x2 x3 v_wires v_there v_number v_set v_constant x4 x5 v_oldSet v_oldNumber = some z) (hK : zcase (fun q => ZV p l e rm_Md_become s m args below meth c 10 D (none) [(h_this, .inr (5, [.int v_thrown, .int v_wires, .int v_isOpen, .int v_isEmpty, .int v_came, .int o_there, .int v_halves, .ref h_this_number, .ref h_this_set, .ref h_this_constant, .int v_rules, .ref h_this_ruleKind, .ref h_this_ruleBit, .ref h_this_ruleOther, .int v_alone, .int v_halfBits, .ref h_this_oldSet, .ref h_this_oldNumber, .ref h_this_allSets, .ref h_this_allNumbers, .int v_allMany, .ref h_this_root])), (h_this_number, .inl (cI, 15625, .inl o_number)), (h_this_oldSet, .inl (cI, 300, .inl o_oldSet)), (h_this_oldNumber, .inl (cI, 300, .inl o_oldNumber)), (h_this_set, .inl (cI, 6, .inl o_set)), (h_this_constant, .inl (cI, 6, .inl o_constant))] [h_this, h_this_number, h_this_oldSet, h_this_oldNumber, h_this_set, h_this_constant] [(h_this, .inr (5, [.int v_thrown, .int v_wires, .int v_isOpen, .int v_isEmpty, .int v_came, .int v_there, .int v_halves, .ref h_this_number, .ref h_this_set, .ref h_this_constant, .int v_rules, .ref h_this_ruleKind, .ref h_this_ruleBit, .ref h_this_ruleOther, .int v_alone, .int v_halfBits, .ref h_this_oldSet, .ref h_this_oldNumber, .ref h_this_allSets, .ref h_this_allNumbers, .int v_allMany, .ref h_this_root])), (h_this_number, .inl (cI, 15625, .inl v_number)), (h_this_oldSet, .inl (cI, 300, .inl q.2.2.1)), (h_this_oldNumber, .inl (cI, 300, .inl q.2.2.2)), (h_this_set, .inl (cI, 6, .inl v_set)), (h_this_constant, .inl (cI, 6, .inl v_constant))] 6 [(0, .ref h_this), (1, .int x1), (2, .int x2), (3, .int x3), (4, .int q.1), (5, .int q.2.1)] []) (fun q => ZV p l e rm_Md_become s m args below meth c 10 D (none) [(h_this, .inr (5, [.int v_thrown, .int v_wires, .int v_isOpen, .int v_isEmpty, .int v_came, .int o_there, .int v_halves, .ref h_this_number, .ref h_this_set, .ref h_this_constant, .int v_rules, .ref h_this_ruleKind, .ref h_this_ruleBit, .ref h_this_ruleOther, .int v_alone, .int v_halfBits, .ref h_this_oldSet, .ref h_this_oldNumber, .ref h_this_allSets, .ref h_this_allNumbers, .int v_allMany, .ref h_this_root])), (h_this_number, .inl (cI, 15625, .inl o_number)), (h_this_oldSet, .inl (cI, 300, .inl o_oldSet)), (h_this_oldNumber, .inl (cI, 300, .inl o_oldNumber)), (h_this_set, .inl (cI, 6, .inl o_set)), (h_this_constant, .inl (cI, 6, .inl o_constant))] [h_this, h_this_number, h_this_oldSet, h_this_oldNumber, h_this_set, h_this_constant] [(h_this, .inr (5, [.int v_thrown, .int v_wires, .int v_isOpen, .int v_isEmpty, .int v_came, .int v_there, .int v_halves, .ref h_this_number, .ref h_this_set, .ref h_this_constant, .int v_rules, .ref h_this_ruleKind, .ref h_this_ruleBit, .ref h_this_ruleOther, .int v_alone, .int v_halfBits, .ref h_this_oldSet, .ref h_this_oldNumber, .ref h_this_allSets, .ref h_this_allNumbers, .int v_allMany, .ref h_this_root])), (h_this_number, .inl (cI, 15625, .inl v_number)), (h_this_oldSet, .inl (cI, 300, .inl q.2.1)), (h_this_oldNumber, .inl (cI, 300, .inl q.2.2)), (h_this_set, .inl (cI, 6, .inl v_set)), (h_this_constant, .inl (cI, 6, .inl v_constant))] 131 [(0, .ref h_this), (1, .int x1), (2, .int x2), (3, .int x3), (4, .int q.1)] []) z) : ZV p l e rm_Md_become s m args below meth c 10 D (none) [(h_this, .inr (5, [.int v_thrown, .int v_wires, .int v_isOpen, .int v_isEmpty, .int v_came, .int o_there, .int v_halves, .ref h_this_number, .ref h_this_set, .ref h_this_constant, .int v_rules, .ref h_this_ruleKind, .ref h_this_ruleBit, .ref h_this_ruleOther, .int v_alone, .int v_halfBits, .ref h_this_oldSet, .ref h_this_oldNumber, .ref h_this_allSets, .ref h_this_allNumbers, .int v_allMany, .ref h_this_root])), (h_this_number, .inl (cI, 15625, .inl o_number)), (h_this_oldSet, .inl (cI, 300, .inl o_oldSet)), (h_this_oldNumber, .inl (cI, 300, .inl o_oldNumber)), (h_this_set, .inl (cI, 6, .inl o_set)), (h_this_constant, .inl (cI, 6, .inl o_constant))] [h_this, h_this_number, h_this_oldSet, h_this_oldNumber, h_this_set, h_this_constant] [(h_this, .inr (5, [.int v_thrown, .int v_wires, .int v_isOpen, .int v_isEmpty, .int v_came, .int v_there, .int v_halves, .ref h_this_number, .ref h_this_set, .ref h_this_constant, .int v_rules, .ref h_this_ruleKind, .ref h_this_ruleBit, .ref h_this_ruleOther, .int v_alone, .int v_halfBits, .ref h_this_oldSet, .ref h_this_oldNumber, .ref h_this_allSets, .ref h_this_allNumbers, .int v_allMany, .ref h_this_root])), (h_this_number, .inl (cI, 15625, .inl v_number)), (h_this_oldSet, .inl (cI, 300, .inl v_oldSet)), (h_this_oldNumber, .inl (cI, 300, .inl v_oldNumber)), (h_this_set, .inl (cI, 6, .inl v_set)), (h_this_constant, .inl (cI, 6, .inl v_constant))] 6 [(0, .ref h_this), (1, .int x1), (2, .int x2), (3, .int x3), (4, .int x4), (5, .int x5)] [] := by
  unfold f_Md_become_l6 at hf
  refine z_iload C d_Md_become_6 5 rfl ?_
  refine z_bipush (v := 24) C d_Md_become_8 (by decide) ?_
  refine z_icmp_ge (tgt := 131) C d_Md_become_10 (by decide) (fun c_1 => ?_) (fun c_1 => ?_)
  · have hf := zif_pos c_1 hf
    refine z_lv [0, 1, 2, 3, 4] rfl ?_
    cases hf
    exact hK
  · have hf := zif_neg c_1 hf
    refine z_iconst (v := 0) C d_Md_become_13 (by decide) ?_
    refine z_istore (lv' := [(6, .int (0 : Int32)), (0, .ref h_this), (1, .int x1), (2, .int x2), (3, .int x3), (4, .int x4), (5, .int x5)]) C d_Md_become_14 (by decide) rfl ?_
    refine z_lv [1, 2, 3, 4, 5, 6, 0] rfl ?_
    obtain ⟨y_2, q_3, q_4, h_5, hf⟩ := zb3_elim hf
    refine k_Md_become_l16_run C hr h_5 ?_
    obtain ⟨y_6, ey_6⟩ : ∃ y : Int32, y = x5 + 1 := ⟨_, rfl⟩
    have hf := zlet_at ey_6 hf
    refine z_iinc (v := y_6) (lv' := [(5, .int y_6), (0, .ref h_this), (1, .int x1), (2, .int x2), (3, .int x3), (4, .int y_2)]) C d_Md_become_125 (k := 5) rfl (by rw [ey_6]; rfl) (by decide) rfl ?_
    refine z_goto (tgt := 6) C d_Md_become_128 (by decide) ?_
    refine z_lv [1, 2, 3, 4, 5, 0] rfl ?_
    cases hf
    exact hK
theorem k_Md_become_l6_run {p : Program} {l : Launch} {e : Env} {s : State} {m : MethodId} {args : Array Value} {below : List Frame} {meth : Method} {c : Code} {D : va_G} {cI cL : ClassId} {h_this h_this_number h_this_set h_this_constant h_this_ruleKind h_this_ruleBit h_this_ruleOther h_this_oldSet h_this_oldNumber h_this_allSets h_this_allNumbers h_this_root : Nat} {v_thrown v_wires v_isOpen v_isEmpty v_came v_there v_halves v_rules v_alone v_halfBits v_allMany o_there x1 x2 x3 x4 x5 : Int32} {v_number v_oldSet v_oldNumber v_set v_constant o_number o_oldSet o_oldNumber o_set o_constant : Nat → Int32} (C : zC p s m args meth c b_Md_become 10 R_Md D vwCl [(cI, .int), (cL, .long)] (zA [h_this, h_this_number, h_this_oldSet, h_this_oldNumber, h_this_set, h_this_constant] s.heap.size)) (hr : meth.sig.returnType = none) {o0 : Int32} {o1 : Nat → Int32} {o2 : Nat → Int32} (hf : zloop (fun q => f_Md_become_l6 x1 x2 x3 v_wires v_there v_number v_set v_constant q.1 q.2.1 q.2.2.1 q.2.2.2) zF (x4, x5, v_oldSet, v_oldNumber) = some (o0, o1, o2)) (hK : ZV p l e rm_Md_become s m args below meth c 10 D (none) [(h_this, .inr (5, [.int v_thrown, .int v_wires, .int v_isOpen, .int v_isEmpty, .int v_came, .int o_there, .int v_halves, .ref h_this_number, .ref h_this_set, .ref h_this_constant, .int v_rules, .ref h_this_ruleKind, .ref h_this_ruleBit, .ref h_this_ruleOther, .int v_alone, .int v_halfBits, .ref h_this_oldSet, .ref h_this_oldNumber, .ref h_this_allSets, .ref h_this_allNumbers, .int v_allMany, .ref h_this_root])), (h_this_number, .inl (cI, 15625, .inl o_number)), (h_this_oldSet, .inl (cI, 300, .inl o_oldSet)), (h_this_oldNumber, .inl (cI, 300, .inl o_oldNumber)), (h_this_set, .inl (cI, 6, .inl o_set)), (h_this_constant, .inl (cI, 6, .inl o_constant))] [h_this, h_this_number, h_this_oldSet, h_this_oldNumber, h_this_set, h_this_constant] [(h_this, .inr (5, [.int v_thrown, .int v_wires, .int v_isOpen, .int v_isEmpty, .int v_came, .int v_there, .int v_halves, .ref h_this_number, .ref h_this_set, .ref h_this_constant, .int v_rules, .ref h_this_ruleKind, .ref h_this_ruleBit, .ref h_this_ruleOther, .int v_alone, .int v_halfBits, .ref h_this_oldSet, .ref h_this_oldNumber, .ref h_this_allSets, .ref h_this_allNumbers, .int v_allMany, .ref h_this_root])), (h_this_number, .inl (cI, 15625, .inl v_number)), (h_this_oldSet, .inl (cI, 300, .inl o1)), (h_this_oldNumber, .inl (cI, 300, .inl o2)), (h_this_set, .inl (cI, 6, .inl v_set)), (h_this_constant, .inl (cI, 6, .inl v_constant))] 131 [(0, .ref h_this), (1, .int x1), (2, .int x2), (3, .int x3), (4, .int o0)] []) : ZV p l e rm_Md_become s m args below meth c 10 D (none) [(h_this, .inr (5, [.int v_thrown, .int v_wires, .int v_isOpen, .int v_isEmpty, .int v_came, .int o_there, .int v_halves, .ref h_this_number, .ref h_this_set, .ref h_this_constant, .int v_rules, .ref h_this_ruleKind, .ref h_this_ruleBit, .ref h_this_ruleOther, .int v_alone, .int v_halfBits, .ref h_this_oldSet, .ref h_this_oldNumber, .ref h_this_allSets, .ref h_this_allNumbers, .int v_allMany, .ref h_this_root])), (h_this_number, .inl (cI, 15625, .inl o_number)), (h_this_oldSet, .inl (cI, 300, .inl o_oldSet)), (h_this_oldNumber, .inl (cI, 300, .inl o_oldNumber)), (h_this_set, .inl (cI, 6, .inl o_set)), (h_this_constant, .inl (cI, 6, .inl o_constant))] [h_this, h_this_number, h_this_oldSet, h_this_oldNumber, h_this_set, h_this_constant] [(h_this, .inr (5, [.int v_thrown, .int v_wires, .int v_isOpen, .int v_isEmpty, .int v_came, .int v_there, .int v_halves, .ref h_this_number, .ref h_this_set, .ref h_this_constant, .int v_rules, .ref h_this_ruleKind, .ref h_this_ruleBit, .ref h_this_ruleOther, .int v_alone, .int v_halfBits, .ref h_this_oldSet, .ref h_this_oldNumber, .ref h_this_allSets, .ref h_this_allNumbers, .int v_allMany, .ref h_this_root])), (h_this_number, .inl (cI, 15625, .inl v_number)), (h_this_oldSet, .inl (cI, 300, .inl v_oldSet)), (h_this_oldNumber, .inl (cI, 300, .inl v_oldNumber)), (h_this_set, .inl (cI, 6, .inl v_set)), (h_this_constant, .inl (cI, 6, .inl v_constant))] 6 [(0, .ref h_this), (1, .int x1), (2, .int x2), (3, .int x3), (4, .int x4), (5, .int x5)] [] :=
  zloop_run (P := fun q => ZV p l e rm_Md_become s m args below meth c 10 D (none) [(h_this, .inr (5, [.int v_thrown, .int v_wires, .int v_isOpen, .int v_isEmpty, .int v_came, .int o_there, .int v_halves, .ref h_this_number, .ref h_this_set, .ref h_this_constant, .int v_rules, .ref h_this_ruleKind, .ref h_this_ruleBit, .ref h_this_ruleOther, .int v_alone, .int v_halfBits, .ref h_this_oldSet, .ref h_this_oldNumber, .ref h_this_allSets, .ref h_this_allNumbers, .int v_allMany, .ref h_this_root])), (h_this_number, .inl (cI, 15625, .inl o_number)), (h_this_oldSet, .inl (cI, 300, .inl o_oldSet)), (h_this_oldNumber, .inl (cI, 300, .inl o_oldNumber)), (h_this_set, .inl (cI, 6, .inl o_set)), (h_this_constant, .inl (cI, 6, .inl o_constant))] [h_this, h_this_number, h_this_oldSet, h_this_oldNumber, h_this_set, h_this_constant] [(h_this, .inr (5, [.int v_thrown, .int v_wires, .int v_isOpen, .int v_isEmpty, .int v_came, .int v_there, .int v_halves, .ref h_this_number, .ref h_this_set, .ref h_this_constant, .int v_rules, .ref h_this_ruleKind, .ref h_this_ruleBit, .ref h_this_ruleOther, .int v_alone, .int v_halfBits, .ref h_this_oldSet, .ref h_this_oldNumber, .ref h_this_allSets, .ref h_this_allNumbers, .int v_allMany, .ref h_this_root])), (h_this_number, .inl (cI, 15625, .inl v_number)), (h_this_oldSet, .inl (cI, 300, .inl q.2.2.1)), (h_this_oldNumber, .inl (cI, 300, .inl q.2.2.2)), (h_this_set, .inl (cI, 6, .inl v_set)), (h_this_constant, .inl (cI, 6, .inl v_constant))] 6 [(0, .ref h_this), (1, .int x1), (2, .int x2), (3, .int x3), (4, .int q.1), (5, .int q.2.1)] []) (K := (fun q => ZV p l e rm_Md_become s m args below meth c 10 D (none) [(h_this, .inr (5, [.int v_thrown, .int v_wires, .int v_isOpen, .int v_isEmpty, .int v_came, .int o_there, .int v_halves, .ref h_this_number, .ref h_this_set, .ref h_this_constant, .int v_rules, .ref h_this_ruleKind, .ref h_this_ruleBit, .ref h_this_ruleOther, .int v_alone, .int v_halfBits, .ref h_this_oldSet, .ref h_this_oldNumber, .ref h_this_allSets, .ref h_this_allNumbers, .int v_allMany, .ref h_this_root])), (h_this_number, .inl (cI, 15625, .inl o_number)), (h_this_oldSet, .inl (cI, 300, .inl o_oldSet)), (h_this_oldNumber, .inl (cI, 300, .inl o_oldNumber)), (h_this_set, .inl (cI, 6, .inl o_set)), (h_this_constant, .inl (cI, 6, .inl o_constant))] [h_this, h_this_number, h_this_oldSet, h_this_oldNumber, h_this_set, h_this_constant] [(h_this, .inr (5, [.int v_thrown, .int v_wires, .int v_isOpen, .int v_isEmpty, .int v_came, .int v_there, .int v_halves, .ref h_this_number, .ref h_this_set, .ref h_this_constant, .int v_rules, .ref h_this_ruleKind, .ref h_this_ruleBit, .ref h_this_ruleOther, .int v_alone, .int v_halfBits, .ref h_this_oldSet, .ref h_this_oldNumber, .ref h_this_allSets, .ref h_this_allNumbers, .int v_allMany, .ref h_this_root])), (h_this_number, .inl (cI, 15625, .inl v_number)), (h_this_oldSet, .inl (cI, 300, .inl q.2.1)), (h_this_oldNumber, .inl (cI, 300, .inl q.2.2)), (h_this_set, .inl (cI, 6, .inl v_set)), (h_this_constant, .inl (cI, 6, .inl v_constant))] 131 [(0, .ref h_this), (1, .int x1), (2, .int x2), (3, .int x3), (4, .int q.1)] [])) (fun q z hz hK => k_Md_become_l6 C hr hz hK) zF _ ((o0, o1, o2)) hf hK
def f_Md_become_l139 (x1 : Int32) (x2 : Int32) (x3 : Int32) (x4 : Int32) (v_wires : Int32) (v_there : Int32) (v_oldSet : Nat → Int32) (v_oldNumber : Nat → Int32) (v_set : Nat → Int32) (v_constant : Nat → Int32) (x5 : Int32) (v_number : Nat → Int32) : Option ((Int32 × (Nat → Int32)) ⊕ ((Nat → Int32))) :=
  if x4 ≤ x5 then (
    some (.inr (v_number)))
  else (
    if x5 < 0 ∨ 300 ≤ x5.toNatClampNeg then none else
    if x5 < 0 ∨ 300 ≤ x5.toNatClampNeg then none else
    zb1 (f_Md_addOr x2 x3 (v_oldNumber x5.toNatClampNeg) (v_oldSet x5.toNatClampNeg) v_number) fun q_5 =>
    zlet (x5 + 1) fun y_6 =>
    some (.inl (y_6, q_5)))
set_option maxRecDepth 100000 in
set_option maxHeartbeats 4000000 in
theorem k_Md_become_l139 {p : Program} {l : Launch} {e : Env} {s : State} {m : MethodId} {args : Array Value} {below : List Frame} {meth : Method} {c : Code} {D : va_G} {cI cL : ClassId} {h_this h_this_number h_this_set h_this_constant h_this_ruleKind h_this_ruleBit h_this_ruleOther h_this_oldSet h_this_oldNumber h_this_allSets h_this_allNumbers h_this_root : Nat} {v_thrown v_wires v_isOpen v_isEmpty v_came v_there v_halves v_rules v_alone v_halfBits v_allMany o_there x1 x2 x3 x4 x5 : Int32} {v_number v_oldSet v_oldNumber v_set v_constant o_number o_oldSet o_oldNumber o_set o_constant : Nat → Int32} (C : zC p s m args meth c b_Md_become 10 R_Md D vwCl [(cI, .int), (cL, .long)] (zA [h_this, h_this_number, h_this_oldSet, h_this_oldNumber, h_this_set, h_this_constant] s.heap.size)) (hr : meth.sig.returnType = none) {z : (Int32 × (Nat → Int32)) ⊕ ((Nat → Int32))} (hf : f_Md_become_l139 x1 x2 x3 x4 v_wires v_there v_oldSet v_oldNumber v_set v_constant x5 v_number = some z) (hK : zcase (fun q => ZV p l e rm_Md_become s m args below meth c 10 D (none) [(h_this, .inr (5, [.int v_thrown, .int v_wires, .int v_isOpen, .int v_isEmpty, .int v_came, .int o_there, .int v_halves, .ref h_this_number, .ref h_this_set, .ref h_this_constant, .int v_rules, .ref h_this_ruleKind, .ref h_this_ruleBit, .ref h_this_ruleOther, .int v_alone, .int v_halfBits, .ref h_this_oldSet, .ref h_this_oldNumber, .ref h_this_allSets, .ref h_this_allNumbers, .int v_allMany, .ref h_this_root])), (h_this_number, .inl (cI, 15625, .inl o_number)), (h_this_oldSet, .inl (cI, 300, .inl o_oldSet)), (h_this_oldNumber, .inl (cI, 300, .inl o_oldNumber)), (h_this_set, .inl (cI, 6, .inl o_set)), (h_this_constant, .inl (cI, 6, .inl o_constant))] [h_this, h_this_number, h_this_oldSet, h_this_oldNumber, h_this_set, h_this_constant] [(h_this, .inr (5, [.int v_thrown, .int v_wires, .int v_isOpen, .int v_isEmpty, .int v_came, .int v_there, .int v_halves, .ref h_this_number, .ref h_this_set, .ref h_this_constant, .int v_rules, .ref h_this_ruleKind, .ref h_this_ruleBit, .ref h_this_ruleOther, .int v_alone, .int v_halfBits, .ref h_this_oldSet, .ref h_this_oldNumber, .ref h_this_allSets, .ref h_this_allNumbers, .int v_allMany, .ref h_this_root])), (h_this_number, .inl (cI, 15625, .inl q.2)), (h_this_oldSet, .inl (cI, 300, .inl v_oldSet)), (h_this_oldNumber, .inl (cI, 300, .inl v_oldNumber)), (h_this_set, .inl (cI, 6, .inl v_set)), (h_this_constant, .inl (cI, 6, .inl v_constant))] 139 [(0, .ref h_this), (1, .int x1), (2, .int x2), (3, .int x3), (4, .int x4), (5, .int q.1)] []) (fun q => ZV p l e rm_Md_become s m args below meth c 10 D (none) [(h_this, .inr (5, [.int v_thrown, .int v_wires, .int v_isOpen, .int v_isEmpty, .int v_came, .int o_there, .int v_halves, .ref h_this_number, .ref h_this_set, .ref h_this_constant, .int v_rules, .ref h_this_ruleKind, .ref h_this_ruleBit, .ref h_this_ruleOther, .int v_alone, .int v_halfBits, .ref h_this_oldSet, .ref h_this_oldNumber, .ref h_this_allSets, .ref h_this_allNumbers, .int v_allMany, .ref h_this_root])), (h_this_number, .inl (cI, 15625, .inl o_number)), (h_this_oldSet, .inl (cI, 300, .inl o_oldSet)), (h_this_oldNumber, .inl (cI, 300, .inl o_oldNumber)), (h_this_set, .inl (cI, 6, .inl o_set)), (h_this_constant, .inl (cI, 6, .inl o_constant))] [h_this, h_this_number, h_this_oldSet, h_this_oldNumber, h_this_set, h_this_constant] [(h_this, .inr (5, [.int v_thrown, .int v_wires, .int v_isOpen, .int v_isEmpty, .int v_came, .int v_there, .int v_halves, .ref h_this_number, .ref h_this_set, .ref h_this_constant, .int v_rules, .ref h_this_ruleKind, .ref h_this_ruleBit, .ref h_this_ruleOther, .int v_alone, .int v_halfBits, .ref h_this_oldSet, .ref h_this_oldNumber, .ref h_this_allSets, .ref h_this_allNumbers, .int v_allMany, .ref h_this_root])), (h_this_number, .inl (cI, 15625, .inl q)), (h_this_oldSet, .inl (cI, 300, .inl v_oldSet)), (h_this_oldNumber, .inl (cI, 300, .inl v_oldNumber)), (h_this_set, .inl (cI, 6, .inl v_set)), (h_this_constant, .inl (cI, 6, .inl v_constant))] 172 [(0, .ref h_this), (1, .int x1), (2, .int x2), (3, .int x3)] []) z) : ZV p l e rm_Md_become s m args below meth c 10 D (none) [(h_this, .inr (5, [.int v_thrown, .int v_wires, .int v_isOpen, .int v_isEmpty, .int v_came, .int o_there, .int v_halves, .ref h_this_number, .ref h_this_set, .ref h_this_constant, .int v_rules, .ref h_this_ruleKind, .ref h_this_ruleBit, .ref h_this_ruleOther, .int v_alone, .int v_halfBits, .ref h_this_oldSet, .ref h_this_oldNumber, .ref h_this_allSets, .ref h_this_allNumbers, .int v_allMany, .ref h_this_root])), (h_this_number, .inl (cI, 15625, .inl o_number)), (h_this_oldSet, .inl (cI, 300, .inl o_oldSet)), (h_this_oldNumber, .inl (cI, 300, .inl o_oldNumber)), (h_this_set, .inl (cI, 6, .inl o_set)), (h_this_constant, .inl (cI, 6, .inl o_constant))] [h_this, h_this_number, h_this_oldSet, h_this_oldNumber, h_this_set, h_this_constant] [(h_this, .inr (5, [.int v_thrown, .int v_wires, .int v_isOpen, .int v_isEmpty, .int v_came, .int v_there, .int v_halves, .ref h_this_number, .ref h_this_set, .ref h_this_constant, .int v_rules, .ref h_this_ruleKind, .ref h_this_ruleBit, .ref h_this_ruleOther, .int v_alone, .int v_halfBits, .ref h_this_oldSet, .ref h_this_oldNumber, .ref h_this_allSets, .ref h_this_allNumbers, .int v_allMany, .ref h_this_root])), (h_this_number, .inl (cI, 15625, .inl v_number)), (h_this_oldSet, .inl (cI, 300, .inl v_oldSet)), (h_this_oldNumber, .inl (cI, 300, .inl v_oldNumber)), (h_this_set, .inl (cI, 6, .inl v_set)), (h_this_constant, .inl (cI, 6, .inl v_constant))] 139 [(0, .ref h_this), (1, .int x1), (2, .int x2), (3, .int x3), (4, .int x4), (5, .int x5)] [] := by
  unfold f_Md_become_l139 at hf
  refine z_iload C d_Md_become_139 5 rfl ?_
  refine z_iload C d_Md_become_141 4 rfl ?_
  refine z_icmp_ge (tgt := 172) C d_Md_become_143 (by decide) (fun c_1 => ?_) (fun c_1 => ?_)
  · have hf := zif_pos c_1 hf
    refine z_lv [0, 1, 2, 3] rfl ?_
    cases hf
    exact hK
  · have hf := zif_neg c_1 hf
    refine z_aload_n C d_Md_become_146 rfl 0 rfl ?_
    refine z_iload_n C d_Md_become_147 rfl 2 rfl ?_
    refine z_iload_n C d_Md_become_148 rfl 3 rfl ?_
    refine z_aload_n C d_Md_become_149 rfl 0 rfl ?_
    refine z_get C iw_Md 0 rfl rfl 17 (by decide) zw_515 rfl d_Md_become_150 ?_
    refine z_iload C d_Md_become_153 5 rfl ?_
    obtain ⟨g_2, hf⟩ := zguard hf
    refine z_iald C 3 0 rfl rfl g_2 d_Md_become_155 ?_
    refine z_aload_n C d_Md_become_156 rfl 0 rfl ?_
    refine z_get C iw_Md 0 rfl rfl 16 (by decide) zw_514 rfl d_Md_become_157 ?_
    refine z_iload C d_Md_become_160 5 rfl ?_
    obtain ⟨g_3, hf⟩ := zguard hf
    refine z_iald C 2 0 rfl rfl g_3 d_Md_become_162 ?_
    obtain ⟨q_5, h_4, hf⟩ := zb1_elim hf
    refine z_callV (As := [.int x2, .int x3, .int (v_oldNumber x5.toNatClampNeg), .int (v_oldSet x5.toNatClampNeg)]) (rest := []) (ws' := [(h_this, .inr (5, [.int v_thrown, .int v_wires, .int v_isOpen, .int v_isEmpty, .int v_came, .int v_there, .int v_halves, .ref h_this_number, .ref h_this_set, .ref h_this_constant, .int v_rules, .ref h_this_ruleKind, .ref h_this_ruleBit, .ref h_this_ruleOther, .int v_alone, .int v_halfBits, .ref h_this_oldSet, .ref h_this_oldNumber, .ref h_this_allSets, .ref h_this_allNumbers, .int v_allMany, .ref h_this_root])), (h_this_number, .inl (cI, 15625, .inl q_5)), (h_this_oldSet, .inl (cI, 300, .inl v_oldSet)), (h_this_oldNumber, .inl (cI, 300, .inl v_oldNumber)), (h_this_set, .inl (cI, 6, .inl v_set)), (h_this_constant, .inl (cI, 6, .inl v_constant))]) C (c_Md_addOr h_4) mi_Md_addOr zw_622 (by decide) 0 rfl rfl [0, 1] (by decide) rfl rfl rfl rfl rfl (by decide) ⟨Nat.zero_le _, Nat.zero_le _⟩ d_Md_become_163 ?_
    obtain ⟨y_6, ey_6⟩ : ∃ y : Int32, y = x5 + 1 := ⟨_, rfl⟩
    have hf := zlet_at ey_6 hf
    refine z_iinc (v := y_6) (lv' := [(5, .int y_6), (0, .ref h_this), (1, .int x1), (2, .int x2), (3, .int x3), (4, .int x4)]) C d_Md_become_166 (k := 5) rfl (by rw [ey_6]; rfl) (by decide) rfl ?_
    refine z_goto (tgt := 139) C d_Md_become_169 (by decide) ?_
    refine z_lv [1, 2, 3, 4, 5, 0] rfl ?_
    cases hf
    exact hK
theorem k_Md_become_l139_run {p : Program} {l : Launch} {e : Env} {s : State} {m : MethodId} {args : Array Value} {below : List Frame} {meth : Method} {c : Code} {D : va_G} {cI cL : ClassId} {h_this h_this_number h_this_set h_this_constant h_this_ruleKind h_this_ruleBit h_this_ruleOther h_this_oldSet h_this_oldNumber h_this_allSets h_this_allNumbers h_this_root : Nat} {v_thrown v_wires v_isOpen v_isEmpty v_came v_there v_halves v_rules v_alone v_halfBits v_allMany o_there x1 x2 x3 x4 x5 : Int32} {v_number v_oldSet v_oldNumber v_set v_constant o_number o_oldSet o_oldNumber o_set o_constant : Nat → Int32} (C : zC p s m args meth c b_Md_become 10 R_Md D vwCl [(cI, .int), (cL, .long)] (zA [h_this, h_this_number, h_this_oldSet, h_this_oldNumber, h_this_set, h_this_constant] s.heap.size)) (hr : meth.sig.returnType = none) {o0 : Nat → Int32} (hf : zloop (fun q => f_Md_become_l139 x1 x2 x3 x4 v_wires v_there v_oldSet v_oldNumber v_set v_constant q.1 q.2) zF (x5, v_number) = some o0) (hK : ZV p l e rm_Md_become s m args below meth c 10 D (none) [(h_this, .inr (5, [.int v_thrown, .int v_wires, .int v_isOpen, .int v_isEmpty, .int v_came, .int o_there, .int v_halves, .ref h_this_number, .ref h_this_set, .ref h_this_constant, .int v_rules, .ref h_this_ruleKind, .ref h_this_ruleBit, .ref h_this_ruleOther, .int v_alone, .int v_halfBits, .ref h_this_oldSet, .ref h_this_oldNumber, .ref h_this_allSets, .ref h_this_allNumbers, .int v_allMany, .ref h_this_root])), (h_this_number, .inl (cI, 15625, .inl o_number)), (h_this_oldSet, .inl (cI, 300, .inl o_oldSet)), (h_this_oldNumber, .inl (cI, 300, .inl o_oldNumber)), (h_this_set, .inl (cI, 6, .inl o_set)), (h_this_constant, .inl (cI, 6, .inl o_constant))] [h_this, h_this_number, h_this_oldSet, h_this_oldNumber, h_this_set, h_this_constant] [(h_this, .inr (5, [.int v_thrown, .int v_wires, .int v_isOpen, .int v_isEmpty, .int v_came, .int v_there, .int v_halves, .ref h_this_number, .ref h_this_set, .ref h_this_constant, .int v_rules, .ref h_this_ruleKind, .ref h_this_ruleBit, .ref h_this_ruleOther, .int v_alone, .int v_halfBits, .ref h_this_oldSet, .ref h_this_oldNumber, .ref h_this_allSets, .ref h_this_allNumbers, .int v_allMany, .ref h_this_root])), (h_this_number, .inl (cI, 15625, .inl o0)), (h_this_oldSet, .inl (cI, 300, .inl v_oldSet)), (h_this_oldNumber, .inl (cI, 300, .inl v_oldNumber)), (h_this_set, .inl (cI, 6, .inl v_set)), (h_this_constant, .inl (cI, 6, .inl v_constant))] 172 [(0, .ref h_this), (1, .int x1), (2, .int x2), (3, .int x3)] []) : ZV p l e rm_Md_become s m args below meth c 10 D (none) [(h_this, .inr (5, [.int v_thrown, .int v_wires, .int v_isOpen, .int v_isEmpty, .int v_came, .int o_there, .int v_halves, .ref h_this_number, .ref h_this_set, .ref h_this_constant, .int v_rules, .ref h_this_ruleKind, .ref h_this_ruleBit, .ref h_this_ruleOther, .int v_alone, .int v_halfBits, .ref h_this_oldSet, .ref h_this_oldNumber, .ref h_this_allSets, .ref h_this_allNumbers, .int v_allMany, .ref h_this_root])), (h_this_number, .inl (cI, 15625, .inl o_number)), (h_this_oldSet, .inl (cI, 300, .inl o_oldSet)), (h_this_oldNumber, .inl (cI, 300, .inl o_oldNumber)), (h_this_set, .inl (cI, 6, .inl o_set)), (h_this_constant, .inl (cI, 6, .inl o_constant))] [h_this, h_this_number, h_this_oldSet, h_this_oldNumber, h_this_set, h_this_constant] [(h_this, .inr (5, [.int v_thrown, .int v_wires, .int v_isOpen, .int v_isEmpty, .int v_came, .int v_there, .int v_halves, .ref h_this_number, .ref h_this_set, .ref h_this_constant, .int v_rules, .ref h_this_ruleKind, .ref h_this_ruleBit, .ref h_this_ruleOther, .int v_alone, .int v_halfBits, .ref h_this_oldSet, .ref h_this_oldNumber, .ref h_this_allSets, .ref h_this_allNumbers, .int v_allMany, .ref h_this_root])), (h_this_number, .inl (cI, 15625, .inl v_number)), (h_this_oldSet, .inl (cI, 300, .inl v_oldSet)), (h_this_oldNumber, .inl (cI, 300, .inl v_oldNumber)), (h_this_set, .inl (cI, 6, .inl v_set)), (h_this_constant, .inl (cI, 6, .inl v_constant))] 139 [(0, .ref h_this), (1, .int x1), (2, .int x2), (3, .int x3), (4, .int x4), (5, .int x5)] [] :=
  zloop_run (P := fun q => ZV p l e rm_Md_become s m args below meth c 10 D (none) [(h_this, .inr (5, [.int v_thrown, .int v_wires, .int v_isOpen, .int v_isEmpty, .int v_came, .int o_there, .int v_halves, .ref h_this_number, .ref h_this_set, .ref h_this_constant, .int v_rules, .ref h_this_ruleKind, .ref h_this_ruleBit, .ref h_this_ruleOther, .int v_alone, .int v_halfBits, .ref h_this_oldSet, .ref h_this_oldNumber, .ref h_this_allSets, .ref h_this_allNumbers, .int v_allMany, .ref h_this_root])), (h_this_number, .inl (cI, 15625, .inl o_number)), (h_this_oldSet, .inl (cI, 300, .inl o_oldSet)), (h_this_oldNumber, .inl (cI, 300, .inl o_oldNumber)), (h_this_set, .inl (cI, 6, .inl o_set)), (h_this_constant, .inl (cI, 6, .inl o_constant))] [h_this, h_this_number, h_this_oldSet, h_this_oldNumber, h_this_set, h_this_constant] [(h_this, .inr (5, [.int v_thrown, .int v_wires, .int v_isOpen, .int v_isEmpty, .int v_came, .int v_there, .int v_halves, .ref h_this_number, .ref h_this_set, .ref h_this_constant, .int v_rules, .ref h_this_ruleKind, .ref h_this_ruleBit, .ref h_this_ruleOther, .int v_alone, .int v_halfBits, .ref h_this_oldSet, .ref h_this_oldNumber, .ref h_this_allSets, .ref h_this_allNumbers, .int v_allMany, .ref h_this_root])), (h_this_number, .inl (cI, 15625, .inl q.2)), (h_this_oldSet, .inl (cI, 300, .inl v_oldSet)), (h_this_oldNumber, .inl (cI, 300, .inl v_oldNumber)), (h_this_set, .inl (cI, 6, .inl v_set)), (h_this_constant, .inl (cI, 6, .inl v_constant))] 139 [(0, .ref h_this), (1, .int x1), (2, .int x2), (3, .int x3), (4, .int x4), (5, .int q.1)] []) (K := (fun q => ZV p l e rm_Md_become s m args below meth c 10 D (none) [(h_this, .inr (5, [.int v_thrown, .int v_wires, .int v_isOpen, .int v_isEmpty, .int v_came, .int o_there, .int v_halves, .ref h_this_number, .ref h_this_set, .ref h_this_constant, .int v_rules, .ref h_this_ruleKind, .ref h_this_ruleBit, .ref h_this_ruleOther, .int v_alone, .int v_halfBits, .ref h_this_oldSet, .ref h_this_oldNumber, .ref h_this_allSets, .ref h_this_allNumbers, .int v_allMany, .ref h_this_root])), (h_this_number, .inl (cI, 15625, .inl o_number)), (h_this_oldSet, .inl (cI, 300, .inl o_oldSet)), (h_this_oldNumber, .inl (cI, 300, .inl o_oldNumber)), (h_this_set, .inl (cI, 6, .inl o_set)), (h_this_constant, .inl (cI, 6, .inl o_constant))] [h_this, h_this_number, h_this_oldSet, h_this_oldNumber, h_this_set, h_this_constant] [(h_this, .inr (5, [.int v_thrown, .int v_wires, .int v_isOpen, .int v_isEmpty, .int v_came, .int v_there, .int v_halves, .ref h_this_number, .ref h_this_set, .ref h_this_constant, .int v_rules, .ref h_this_ruleKind, .ref h_this_ruleBit, .ref h_this_ruleOther, .int v_alone, .int v_halfBits, .ref h_this_oldSet, .ref h_this_oldNumber, .ref h_this_allSets, .ref h_this_allNumbers, .int v_allMany, .ref h_this_root])), (h_this_number, .inl (cI, 15625, .inl q)), (h_this_oldSet, .inl (cI, 300, .inl v_oldSet)), (h_this_oldNumber, .inl (cI, 300, .inl v_oldNumber)), (h_this_set, .inl (cI, 6, .inl v_set)), (h_this_constant, .inl (cI, 6, .inl v_constant))] 172 [(0, .ref h_this), (1, .int x1), (2, .int x2), (3, .int x3)] [])) (fun q z hz hK => k_Md_become_l139 C hr hz hK) zF _ (o0) hf hK
def f_Md_become_l175 (x1 : Int32) (x2 : Int32) (x3 : Int32) (v_wires : Int32) (v_there : Int32) (v_number : Nat → Int32) (v_oldSet : Nat → Int32) (v_oldNumber : Nat → Int32) (x5 : Int32) (v_set : Nat → Int32) (v_constant : Nat → Int32) : Option ((Int32 × (Nat → Int32) × (Nat → Int32)) ⊕ ((Nat → Int32) × (Nat → Int32))) :=
  if v_wires ≤ x5 then (
    some (.inr (v_set, v_constant)))
  else (
    if x5 < 0 ∨ 6 ≤ x5.toNatClampNeg then none else
    if (((v_set x5.toNatClampNeg) >>> (x1 &&& 31)) &&& (1 : Int32)) = 0 then (
      zlet (x5 + 1) fun y_4 =>
      some (.inl (y_4, v_set, v_constant)))
    else (
      if x5 < 0 ∨ 6 ≤ x5.toNatClampNeg then none else
      if x5 < 0 ∨ 6 ≤ x5.toNatClampNeg then none else
      zlet (upd v_set x5.toNatClampNeg (((v_set x5.toNatClampNeg) &&& (((1 : Int32) <<< (x1 &&& 31)) ^^^ (-1 : Int32))) ^^^ x2)) fun u_7 =>
      if x5 < 0 ∨ 6 ≤ x5.toNatClampNeg then none else
      if x5 < 0 ∨ 6 ≤ x5.toNatClampNeg then none else
      zlet (upd v_constant x5.toNatClampNeg ((v_constant x5.toNatClampNeg) ^^^ x3)) fun u_10 =>
      zlet (x5 + 1) fun y_11 =>
      some (.inl (y_11, u_7, u_10))))
set_option maxRecDepth 100000 in
set_option maxHeartbeats 4000000 in
theorem k_Md_become_l175 {p : Program} {l : Launch} {e : Env} {s : State} {m : MethodId} {args : Array Value} {below : List Frame} {meth : Method} {c : Code} {D : va_G} {cI cL : ClassId} {h_this h_this_number h_this_set h_this_constant h_this_ruleKind h_this_ruleBit h_this_ruleOther h_this_oldSet h_this_oldNumber h_this_allSets h_this_allNumbers h_this_root : Nat} {v_thrown v_wires v_isOpen v_isEmpty v_came v_there v_halves v_rules v_alone v_halfBits v_allMany o_there x1 x2 x3 x5 : Int32} {v_number v_oldSet v_oldNumber v_set v_constant o_number o_oldSet o_oldNumber o_set o_constant : Nat → Int32} (C : zC p s m args meth c b_Md_become 10 R_Md D vwCl [(cI, .int), (cL, .long)] (zA [h_this, h_this_number, h_this_oldSet, h_this_oldNumber, h_this_set, h_this_constant] s.heap.size)) (hr : meth.sig.returnType = none) {z : (Int32 × (Nat → Int32) × (Nat → Int32)) ⊕ ((Nat → Int32) × (Nat → Int32))} (hf : f_Md_become_l175 x1 x2 x3 v_wires v_there v_number v_oldSet v_oldNumber x5 v_set v_constant = some z) (hK : zcase (fun q => ZV p l e rm_Md_become s m args below meth c 10 D (none) [(h_this, .inr (5, [.int v_thrown, .int v_wires, .int v_isOpen, .int v_isEmpty, .int v_came, .int o_there, .int v_halves, .ref h_this_number, .ref h_this_set, .ref h_this_constant, .int v_rules, .ref h_this_ruleKind, .ref h_this_ruleBit, .ref h_this_ruleOther, .int v_alone, .int v_halfBits, .ref h_this_oldSet, .ref h_this_oldNumber, .ref h_this_allSets, .ref h_this_allNumbers, .int v_allMany, .ref h_this_root])), (h_this_number, .inl (cI, 15625, .inl o_number)), (h_this_oldSet, .inl (cI, 300, .inl o_oldSet)), (h_this_oldNumber, .inl (cI, 300, .inl o_oldNumber)), (h_this_set, .inl (cI, 6, .inl o_set)), (h_this_constant, .inl (cI, 6, .inl o_constant))] [h_this, h_this_number, h_this_oldSet, h_this_oldNumber, h_this_set, h_this_constant] [(h_this, .inr (5, [.int v_thrown, .int v_wires, .int v_isOpen, .int v_isEmpty, .int v_came, .int v_there, .int v_halves, .ref h_this_number, .ref h_this_set, .ref h_this_constant, .int v_rules, .ref h_this_ruleKind, .ref h_this_ruleBit, .ref h_this_ruleOther, .int v_alone, .int v_halfBits, .ref h_this_oldSet, .ref h_this_oldNumber, .ref h_this_allSets, .ref h_this_allNumbers, .int v_allMany, .ref h_this_root])), (h_this_number, .inl (cI, 15625, .inl v_number)), (h_this_oldSet, .inl (cI, 300, .inl v_oldSet)), (h_this_oldNumber, .inl (cI, 300, .inl v_oldNumber)), (h_this_set, .inl (cI, 6, .inl q.2.1)), (h_this_constant, .inl (cI, 6, .inl q.2.2))] 175 [(0, .ref h_this), (1, .int x1), (2, .int x2), (3, .int x3), (5, .int q.1)] []) (fun q => ZV p l e rm_Md_become s m args below meth c 10 D (none) [(h_this, .inr (5, [.int v_thrown, .int v_wires, .int v_isOpen, .int v_isEmpty, .int v_came, .int o_there, .int v_halves, .ref h_this_number, .ref h_this_set, .ref h_this_constant, .int v_rules, .ref h_this_ruleKind, .ref h_this_ruleBit, .ref h_this_ruleOther, .int v_alone, .int v_halfBits, .ref h_this_oldSet, .ref h_this_oldNumber, .ref h_this_allSets, .ref h_this_allNumbers, .int v_allMany, .ref h_this_root])), (h_this_number, .inl (cI, 15625, .inl o_number)), (h_this_oldSet, .inl (cI, 300, .inl o_oldSet)), (h_this_oldNumber, .inl (cI, 300, .inl o_oldNumber)), (h_this_set, .inl (cI, 6, .inl o_set)), (h_this_constant, .inl (cI, 6, .inl o_constant))] [h_this, h_this_number, h_this_oldSet, h_this_oldNumber, h_this_set, h_this_constant] [(h_this, .inr (5, [.int v_thrown, .int v_wires, .int v_isOpen, .int v_isEmpty, .int v_came, .int v_there, .int v_halves, .ref h_this_number, .ref h_this_set, .ref h_this_constant, .int v_rules, .ref h_this_ruleKind, .ref h_this_ruleBit, .ref h_this_ruleOther, .int v_alone, .int v_halfBits, .ref h_this_oldSet, .ref h_this_oldNumber, .ref h_this_allSets, .ref h_this_allNumbers, .int v_allMany, .ref h_this_root])), (h_this_number, .inl (cI, 15625, .inl v_number)), (h_this_oldSet, .inl (cI, 300, .inl v_oldSet)), (h_this_oldNumber, .inl (cI, 300, .inl v_oldNumber)), (h_this_set, .inl (cI, 6, .inl q.1)), (h_this_constant, .inl (cI, 6, .inl q.2))] 240 [] []) z) : ZV p l e rm_Md_become s m args below meth c 10 D (none) [(h_this, .inr (5, [.int v_thrown, .int v_wires, .int v_isOpen, .int v_isEmpty, .int v_came, .int o_there, .int v_halves, .ref h_this_number, .ref h_this_set, .ref h_this_constant, .int v_rules, .ref h_this_ruleKind, .ref h_this_ruleBit, .ref h_this_ruleOther, .int v_alone, .int v_halfBits, .ref h_this_oldSet, .ref h_this_oldNumber, .ref h_this_allSets, .ref h_this_allNumbers, .int v_allMany, .ref h_this_root])), (h_this_number, .inl (cI, 15625, .inl o_number)), (h_this_oldSet, .inl (cI, 300, .inl o_oldSet)), (h_this_oldNumber, .inl (cI, 300, .inl o_oldNumber)), (h_this_set, .inl (cI, 6, .inl o_set)), (h_this_constant, .inl (cI, 6, .inl o_constant))] [h_this, h_this_number, h_this_oldSet, h_this_oldNumber, h_this_set, h_this_constant] [(h_this, .inr (5, [.int v_thrown, .int v_wires, .int v_isOpen, .int v_isEmpty, .int v_came, .int v_there, .int v_halves, .ref h_this_number, .ref h_this_set, .ref h_this_constant, .int v_rules, .ref h_this_ruleKind, .ref h_this_ruleBit, .ref h_this_ruleOther, .int v_alone, .int v_halfBits, .ref h_this_oldSet, .ref h_this_oldNumber, .ref h_this_allSets, .ref h_this_allNumbers, .int v_allMany, .ref h_this_root])), (h_this_number, .inl (cI, 15625, .inl v_number)), (h_this_oldSet, .inl (cI, 300, .inl v_oldSet)), (h_this_oldNumber, .inl (cI, 300, .inl v_oldNumber)), (h_this_set, .inl (cI, 6, .inl v_set)), (h_this_constant, .inl (cI, 6, .inl v_constant))] 175 [(0, .ref h_this), (1, .int x1), (2, .int x2), (3, .int x3), (5, .int x5)] [] := by
  unfold f_Md_become_l175 at hf
  refine z_iload C d_Md_become_175 4 rfl ?_
  refine z_aload_n C d_Md_become_177 rfl 0 rfl ?_
  refine z_get C iw_Md 0 rfl rfl 1 (by decide) zw_499 rfl d_Md_become_178 ?_
  refine z_icmp_ge (tgt := 240) C d_Md_become_181 (by decide) (fun c_1 => ?_) (fun c_1 => ?_)
  · have hf := zif_pos c_1 hf
    refine z_lv [] rfl ?_
    cases hf
    exact hK
  · have hf := zif_neg c_1 hf
    refine z_aload_n C d_Md_become_184 rfl 0 rfl ?_
    refine z_get C iw_Md 0 rfl rfl 8 (by decide) zw_506 rfl d_Md_become_185 ?_
    refine z_iload C d_Md_become_188 4 rfl ?_
    obtain ⟨g_2, hf⟩ := zguard hf
    refine z_iald C 4 0 rfl rfl g_2 d_Md_become_190 ?_
    refine z_iload_n C d_Md_become_191 rfl 1 rfl ?_
    refine z_ishr C d_Md_become_192 ?_
    refine z_iconst (v := 1) C d_Md_become_193 (by decide) ?_
    refine z_iand C d_Md_become_194 ?_
    refine z_if_ne (tgt := 201) C d_Md_become_195 (by decide) (fun c_3 => ?_) (fun c_3 => ?_)
    · have hf := zif_neg c_3 hf
      refine z_aload_n C d_Md_become_201 rfl 0 rfl ?_
      refine z_get C iw_Md 0 rfl rfl 8 (by decide) zw_506 rfl d_Md_become_202 ?_
      refine z_iload C d_Md_become_205 4 rfl ?_
      refine z_aload_n C d_Md_become_207 rfl 0 rfl ?_
      refine z_get C iw_Md 0 rfl rfl 8 (by decide) zw_506 rfl d_Md_become_208 ?_
      refine z_iload C d_Md_become_211 4 rfl ?_
      obtain ⟨g_5, hf⟩ := zguard hf
      refine z_iald C 4 0 rfl rfl g_5 d_Md_become_213 ?_
      refine z_iconst (v := 1) C d_Md_become_214 (by decide) ?_
      refine z_iload_n C d_Md_become_215 rfl 1 rfl ?_
      refine z_ishl C d_Md_become_216 ?_
      refine z_iconst (v := -1) C d_Md_become_217 (by decide) ?_
      refine z_ixor C d_Md_become_218 ?_
      refine z_iand C d_Md_become_219 ?_
      refine z_iload_n C d_Md_become_220 rfl 2 rfl ?_
      refine z_ixor C d_Md_become_221 ?_
      obtain ⟨g_6, hf⟩ := zguard hf
      obtain ⟨u_7, eu_7⟩ : ∃ u : Nat → Int32, u = upd v_set x5.toNatClampNeg (((v_set x5.toNatClampNeg) &&& (((1 : Int32) <<< (x1 &&& 31)) ^^^ (-1 : Int32))) ^^^ x2) := ⟨_, rfl⟩
      have hf := zlet_at eu_7 hf
      refine z_iast (ws' := [(h_this, .inr (5, [.int v_thrown, .int v_wires, .int v_isOpen, .int v_isEmpty, .int v_came, .int v_there, .int v_halves, .ref h_this_number, .ref h_this_set, .ref h_this_constant, .int v_rules, .ref h_this_ruleKind, .ref h_this_ruleBit, .ref h_this_ruleOther, .int v_alone, .int v_halfBits, .ref h_this_oldSet, .ref h_this_oldNumber, .ref h_this_allSets, .ref h_this_allNumbers, .int v_allMany, .ref h_this_root])), (h_this_number, .inl (cI, 15625, .inl v_number)), (h_this_oldSet, .inl (cI, 300, .inl v_oldSet)), (h_this_oldNumber, .inl (cI, 300, .inl v_oldNumber)), (h_this_set, .inl (cI, 6, .inl u_7)), (h_this_constant, .inl (cI, 6, .inl v_constant))]) C 4 0 rfl rfl g_6 d_Md_become_222 (by rw [eu_7]; rfl) ?_
      refine z_aload_n C d_Md_become_223 rfl 0 rfl ?_
      refine z_get C iw_Md 0 rfl rfl 9 (by decide) zw_507 rfl d_Md_become_224 ?_
      refine z_iload C d_Md_become_227 4 rfl ?_
      refine z_dup2_11 C d_Md_become_229 rfl rfl ?_
      obtain ⟨g_8, hf⟩ := zguard hf
      refine z_iald C 5 0 rfl rfl g_8 d_Md_become_230 ?_
      refine z_iload_n C d_Md_become_231 rfl 3 rfl ?_
      refine z_ixor C d_Md_become_232 ?_
      obtain ⟨g_9, hf⟩ := zguard hf
      obtain ⟨u_10, eu_10⟩ : ∃ u : Nat → Int32, u = upd v_constant x5.toNatClampNeg ((v_constant x5.toNatClampNeg) ^^^ x3) := ⟨_, rfl⟩
      have hf := zlet_at eu_10 hf
      refine z_iast (ws' := [(h_this, .inr (5, [.int v_thrown, .int v_wires, .int v_isOpen, .int v_isEmpty, .int v_came, .int v_there, .int v_halves, .ref h_this_number, .ref h_this_set, .ref h_this_constant, .int v_rules, .ref h_this_ruleKind, .ref h_this_ruleBit, .ref h_this_ruleOther, .int v_alone, .int v_halfBits, .ref h_this_oldSet, .ref h_this_oldNumber, .ref h_this_allSets, .ref h_this_allNumbers, .int v_allMany, .ref h_this_root])), (h_this_number, .inl (cI, 15625, .inl v_number)), (h_this_oldSet, .inl (cI, 300, .inl v_oldSet)), (h_this_oldNumber, .inl (cI, 300, .inl v_oldNumber)), (h_this_set, .inl (cI, 6, .inl u_7)), (h_this_constant, .inl (cI, 6, .inl u_10))]) C 5 0 rfl rfl g_9 d_Md_become_233 (by rw [eu_10]; rfl) ?_
      obtain ⟨y_11, ey_11⟩ : ∃ y : Int32, y = x5 + 1 := ⟨_, rfl⟩
      have hf := zlet_at ey_11 hf
      refine z_iinc (v := y_11) (lv' := [(5, .int y_11), (0, .ref h_this), (1, .int x1), (2, .int x2), (3, .int x3)]) C d_Md_become_234 (k := 4) rfl (by rw [ey_11]; rfl) (by decide) rfl ?_
      refine z_goto (tgt := 175) C d_Md_become_237 (by decide) ?_
      refine z_lv [1, 2, 3, 4, 0] rfl ?_
      cases hf
      exact hK
    · have hf := zif_pos c_3 hf
      refine z_goto (tgt := 234) C d_Md_become_198 (by decide) ?_
      obtain ⟨y_4, ey_4⟩ : ∃ y : Int32, y = x5 + 1 := ⟨_, rfl⟩
      have hf := zlet_at ey_4 hf
      refine z_iinc (v := y_4) (lv' := [(5, .int y_4), (0, .ref h_this), (1, .int x1), (2, .int x2), (3, .int x3)]) C d_Md_become_234 (k := 4) rfl (by rw [ey_4]; rfl) (by decide) rfl ?_
      refine z_goto (tgt := 175) C d_Md_become_237 (by decide) ?_
      refine z_lv [1, 2, 3, 4, 0] rfl ?_
      cases hf
      exact hK
theorem k_Md_become_l175_run {p : Program} {l : Launch} {e : Env} {s : State} {m : MethodId} {args : Array Value} {below : List Frame} {meth : Method} {c : Code} {D : va_G} {cI cL : ClassId} {h_this h_this_number h_this_set h_this_constant h_this_ruleKind h_this_ruleBit h_this_ruleOther h_this_oldSet h_this_oldNumber h_this_allSets h_this_allNumbers h_this_root : Nat} {v_thrown v_wires v_isOpen v_isEmpty v_came v_there v_halves v_rules v_alone v_halfBits v_allMany o_there x1 x2 x3 x5 : Int32} {v_number v_oldSet v_oldNumber v_set v_constant o_number o_oldSet o_oldNumber o_set o_constant : Nat → Int32} (C : zC p s m args meth c b_Md_become 10 R_Md D vwCl [(cI, .int), (cL, .long)] (zA [h_this, h_this_number, h_this_oldSet, h_this_oldNumber, h_this_set, h_this_constant] s.heap.size)) (hr : meth.sig.returnType = none) {o0 : Nat → Int32} {o1 : Nat → Int32} (hf : zloop (fun q => f_Md_become_l175 x1 x2 x3 v_wires v_there v_number v_oldSet v_oldNumber q.1 q.2.1 q.2.2) zF (x5, v_set, v_constant) = some (o0, o1)) (hK : ZV p l e rm_Md_become s m args below meth c 10 D (none) [(h_this, .inr (5, [.int v_thrown, .int v_wires, .int v_isOpen, .int v_isEmpty, .int v_came, .int o_there, .int v_halves, .ref h_this_number, .ref h_this_set, .ref h_this_constant, .int v_rules, .ref h_this_ruleKind, .ref h_this_ruleBit, .ref h_this_ruleOther, .int v_alone, .int v_halfBits, .ref h_this_oldSet, .ref h_this_oldNumber, .ref h_this_allSets, .ref h_this_allNumbers, .int v_allMany, .ref h_this_root])), (h_this_number, .inl (cI, 15625, .inl o_number)), (h_this_oldSet, .inl (cI, 300, .inl o_oldSet)), (h_this_oldNumber, .inl (cI, 300, .inl o_oldNumber)), (h_this_set, .inl (cI, 6, .inl o_set)), (h_this_constant, .inl (cI, 6, .inl o_constant))] [h_this, h_this_number, h_this_oldSet, h_this_oldNumber, h_this_set, h_this_constant] [(h_this, .inr (5, [.int v_thrown, .int v_wires, .int v_isOpen, .int v_isEmpty, .int v_came, .int v_there, .int v_halves, .ref h_this_number, .ref h_this_set, .ref h_this_constant, .int v_rules, .ref h_this_ruleKind, .ref h_this_ruleBit, .ref h_this_ruleOther, .int v_alone, .int v_halfBits, .ref h_this_oldSet, .ref h_this_oldNumber, .ref h_this_allSets, .ref h_this_allNumbers, .int v_allMany, .ref h_this_root])), (h_this_number, .inl (cI, 15625, .inl v_number)), (h_this_oldSet, .inl (cI, 300, .inl v_oldSet)), (h_this_oldNumber, .inl (cI, 300, .inl v_oldNumber)), (h_this_set, .inl (cI, 6, .inl o0)), (h_this_constant, .inl (cI, 6, .inl o1))] 240 [] []) : ZV p l e rm_Md_become s m args below meth c 10 D (none) [(h_this, .inr (5, [.int v_thrown, .int v_wires, .int v_isOpen, .int v_isEmpty, .int v_came, .int o_there, .int v_halves, .ref h_this_number, .ref h_this_set, .ref h_this_constant, .int v_rules, .ref h_this_ruleKind, .ref h_this_ruleBit, .ref h_this_ruleOther, .int v_alone, .int v_halfBits, .ref h_this_oldSet, .ref h_this_oldNumber, .ref h_this_allSets, .ref h_this_allNumbers, .int v_allMany, .ref h_this_root])), (h_this_number, .inl (cI, 15625, .inl o_number)), (h_this_oldSet, .inl (cI, 300, .inl o_oldSet)), (h_this_oldNumber, .inl (cI, 300, .inl o_oldNumber)), (h_this_set, .inl (cI, 6, .inl o_set)), (h_this_constant, .inl (cI, 6, .inl o_constant))] [h_this, h_this_number, h_this_oldSet, h_this_oldNumber, h_this_set, h_this_constant] [(h_this, .inr (5, [.int v_thrown, .int v_wires, .int v_isOpen, .int v_isEmpty, .int v_came, .int v_there, .int v_halves, .ref h_this_number, .ref h_this_set, .ref h_this_constant, .int v_rules, .ref h_this_ruleKind, .ref h_this_ruleBit, .ref h_this_ruleOther, .int v_alone, .int v_halfBits, .ref h_this_oldSet, .ref h_this_oldNumber, .ref h_this_allSets, .ref h_this_allNumbers, .int v_allMany, .ref h_this_root])), (h_this_number, .inl (cI, 15625, .inl v_number)), (h_this_oldSet, .inl (cI, 300, .inl v_oldSet)), (h_this_oldNumber, .inl (cI, 300, .inl v_oldNumber)), (h_this_set, .inl (cI, 6, .inl v_set)), (h_this_constant, .inl (cI, 6, .inl v_constant))] 175 [(0, .ref h_this), (1, .int x1), (2, .int x2), (3, .int x3), (5, .int x5)] [] :=
  zloop_run (P := fun q => ZV p l e rm_Md_become s m args below meth c 10 D (none) [(h_this, .inr (5, [.int v_thrown, .int v_wires, .int v_isOpen, .int v_isEmpty, .int v_came, .int o_there, .int v_halves, .ref h_this_number, .ref h_this_set, .ref h_this_constant, .int v_rules, .ref h_this_ruleKind, .ref h_this_ruleBit, .ref h_this_ruleOther, .int v_alone, .int v_halfBits, .ref h_this_oldSet, .ref h_this_oldNumber, .ref h_this_allSets, .ref h_this_allNumbers, .int v_allMany, .ref h_this_root])), (h_this_number, .inl (cI, 15625, .inl o_number)), (h_this_oldSet, .inl (cI, 300, .inl o_oldSet)), (h_this_oldNumber, .inl (cI, 300, .inl o_oldNumber)), (h_this_set, .inl (cI, 6, .inl o_set)), (h_this_constant, .inl (cI, 6, .inl o_constant))] [h_this, h_this_number, h_this_oldSet, h_this_oldNumber, h_this_set, h_this_constant] [(h_this, .inr (5, [.int v_thrown, .int v_wires, .int v_isOpen, .int v_isEmpty, .int v_came, .int v_there, .int v_halves, .ref h_this_number, .ref h_this_set, .ref h_this_constant, .int v_rules, .ref h_this_ruleKind, .ref h_this_ruleBit, .ref h_this_ruleOther, .int v_alone, .int v_halfBits, .ref h_this_oldSet, .ref h_this_oldNumber, .ref h_this_allSets, .ref h_this_allNumbers, .int v_allMany, .ref h_this_root])), (h_this_number, .inl (cI, 15625, .inl v_number)), (h_this_oldSet, .inl (cI, 300, .inl v_oldSet)), (h_this_oldNumber, .inl (cI, 300, .inl v_oldNumber)), (h_this_set, .inl (cI, 6, .inl q.2.1)), (h_this_constant, .inl (cI, 6, .inl q.2.2))] 175 [(0, .ref h_this), (1, .int x1), (2, .int x2), (3, .int x3), (5, .int q.1)] []) (K := (fun q => ZV p l e rm_Md_become s m args below meth c 10 D (none) [(h_this, .inr (5, [.int v_thrown, .int v_wires, .int v_isOpen, .int v_isEmpty, .int v_came, .int o_there, .int v_halves, .ref h_this_number, .ref h_this_set, .ref h_this_constant, .int v_rules, .ref h_this_ruleKind, .ref h_this_ruleBit, .ref h_this_ruleOther, .int v_alone, .int v_halfBits, .ref h_this_oldSet, .ref h_this_oldNumber, .ref h_this_allSets, .ref h_this_allNumbers, .int v_allMany, .ref h_this_root])), (h_this_number, .inl (cI, 15625, .inl o_number)), (h_this_oldSet, .inl (cI, 300, .inl o_oldSet)), (h_this_oldNumber, .inl (cI, 300, .inl o_oldNumber)), (h_this_set, .inl (cI, 6, .inl o_set)), (h_this_constant, .inl (cI, 6, .inl o_constant))] [h_this, h_this_number, h_this_oldSet, h_this_oldNumber, h_this_set, h_this_constant] [(h_this, .inr (5, [.int v_thrown, .int v_wires, .int v_isOpen, .int v_isEmpty, .int v_came, .int v_there, .int v_halves, .ref h_this_number, .ref h_this_set, .ref h_this_constant, .int v_rules, .ref h_this_ruleKind, .ref h_this_ruleBit, .ref h_this_ruleOther, .int v_alone, .int v_halfBits, .ref h_this_oldSet, .ref h_this_oldNumber, .ref h_this_allSets, .ref h_this_allNumbers, .int v_allMany, .ref h_this_root])), (h_this_number, .inl (cI, 15625, .inl v_number)), (h_this_oldSet, .inl (cI, 300, .inl v_oldSet)), (h_this_oldNumber, .inl (cI, 300, .inl v_oldNumber)), (h_this_set, .inl (cI, 6, .inl q.1)), (h_this_constant, .inl (cI, 6, .inl q.2))] 240 [] [])) (fun q z hz hK => k_Md_become_l175 C hr hz hK) zF _ ((o0, o1)) hf hK
/-- PathSumsModel.become(III)V -/
def f_Md_become (x1 : Int32) (x2 : Int32) (x3 : Int32) (v_wires : Int32) (v_there : Int32) (v_number : Nat → Int32) (v_oldSet : Nat → Int32) (v_oldNumber : Nat → Int32) (v_set : Nat → Int32) (v_constant : Nat → Int32) : Option (Int32 × (Nat → Int32) × (Nat → Int32) × (Nat → Int32) × (Nat → Int32) × (Nat → Int32)) :=
  zb3 (zloop (fun q => f_Md_become_l6 x1 x2 x3 v_wires v_there v_number v_set v_constant q.1 q.2.1 q.2.2.1 q.2.2.2) zF ((0 : Int32), (0 : Int32), v_oldSet, v_oldNumber)) fun y_1 q_2 q_3 =>
  zb2 (f_Md_dropBit x1 v_there v_number) fun q_6 q_7 =>
  zb1 (zloop (fun q => f_Md_become_l139 x1 x2 x3 y_1 v_wires q_6 q_2 q_3 v_set v_constant q.1 q.2) zF ((0 : Int32), q_7)) fun q_8 =>
  zb2 (zloop (fun q => f_Md_become_l175 x1 x2 x3 v_wires q_6 q_8 q_2 q_3 q.1 q.2.1 q.2.2) zF ((0 : Int32), v_set, v_constant)) fun q_10 q_11 =>
  some (q_6, q_8, q_2, q_3, q_10, q_11)
set_option maxRecDepth 100000 in
set_option maxHeartbeats 4000000 in
theorem k_Md_become {p : Program} {l : Launch} {e : Env} {s : State} {m : MethodId} {args : Array Value} {below : List Frame} {meth : Method} {c : Code} {D : va_G} {cI cL : ClassId} {h_this h_this_number h_this_set h_this_constant h_this_ruleKind h_this_ruleBit h_this_ruleOther h_this_oldSet h_this_oldNumber h_this_allSets h_this_allNumbers h_this_root : Nat} {v_thrown v_wires v_isOpen v_isEmpty v_came v_there v_halves v_rules v_alone v_halfBits v_allMany o_there x1 x2 x3 : Int32} {v_number v_oldSet v_oldNumber v_set v_constant o_number o_oldSet o_oldNumber o_set o_constant : Nat → Int32} (C : zC p s m args meth c b_Md_become 10 R_Md D vwCl [(cI, .int), (cL, .long)] (zA [h_this, h_this_number, h_this_oldSet, h_this_oldNumber, h_this_set, h_this_constant] s.heap.size)) (hr : meth.sig.returnType = none) (hf : f_Md_become x1 x2 x3 v_wires v_there v_number v_oldSet v_oldNumber v_set v_constant = some (o_there, o_number, o_oldSet, o_oldNumber, o_set, o_constant)) : ZV p l e rm_Md_become s m args below meth c 10 D (none) [(h_this, .inr (5, [.int v_thrown, .int v_wires, .int v_isOpen, .int v_isEmpty, .int v_came, .int o_there, .int v_halves, .ref h_this_number, .ref h_this_set, .ref h_this_constant, .int v_rules, .ref h_this_ruleKind, .ref h_this_ruleBit, .ref h_this_ruleOther, .int v_alone, .int v_halfBits, .ref h_this_oldSet, .ref h_this_oldNumber, .ref h_this_allSets, .ref h_this_allNumbers, .int v_allMany, .ref h_this_root])), (h_this_number, .inl (cI, 15625, .inl o_number)), (h_this_oldSet, .inl (cI, 300, .inl o_oldSet)), (h_this_oldNumber, .inl (cI, 300, .inl o_oldNumber)), (h_this_set, .inl (cI, 6, .inl o_set)), (h_this_constant, .inl (cI, 6, .inl o_constant))] [h_this, h_this_number, h_this_oldSet, h_this_oldNumber, h_this_set, h_this_constant] [(h_this, .inr (5, [.int v_thrown, .int v_wires, .int v_isOpen, .int v_isEmpty, .int v_came, .int v_there, .int v_halves, .ref h_this_number, .ref h_this_set, .ref h_this_constant, .int v_rules, .ref h_this_ruleKind, .ref h_this_ruleBit, .ref h_this_ruleOther, .int v_alone, .int v_halfBits, .ref h_this_oldSet, .ref h_this_oldNumber, .ref h_this_allSets, .ref h_this_allNumbers, .int v_allMany, .ref h_this_root])), (h_this_number, .inl (cI, 15625, .inl v_number)), (h_this_oldSet, .inl (cI, 300, .inl v_oldSet)), (h_this_oldNumber, .inl (cI, 300, .inl v_oldNumber)), (h_this_set, .inl (cI, 6, .inl v_set)), (h_this_constant, .inl (cI, 6, .inl v_constant))] 0 [(0, .ref h_this), (1, .int x1), (2, .int x2), (3, .int x3)] [] := by
  unfold f_Md_become at hf
  refine z_iconst (v := 0) C d_Md_become_0 (by decide) ?_
  refine z_istore (lv' := [(4, .int (0 : Int32)), (0, .ref h_this), (1, .int x1), (2, .int x2), (3, .int x3)]) C d_Md_become_1 (by decide) rfl ?_
  refine z_iconst (v := 0) C d_Md_become_3 (by decide) ?_
  refine z_istore (lv' := [(5, .int (0 : Int32)), (4, .int (0 : Int32)), (0, .ref h_this), (1, .int x1), (2, .int x2), (3, .int x3)]) C d_Md_become_4 (by decide) rfl ?_
  refine z_lv [2, 3, 4, 5, 1, 0] rfl ?_
  obtain ⟨y_1, q_2, q_3, h_4, hf⟩ := zb3_elim hf
  refine k_Md_become_l6_run C hr h_4 ?_
  refine z_aload_n C d_Md_become_131 rfl 0 rfl ?_
  refine z_iload_n C d_Md_become_132 rfl 1 rfl ?_
  obtain ⟨q_6, q_7, h_5, hf⟩ := zb2_elim hf
  refine z_callV (As := [.int x1]) (rest := []) (ws' := [(h_this, .inr (5, [.int v_thrown, .int v_wires, .int v_isOpen, .int v_isEmpty, .int v_came, .int q_6, .int v_halves, .ref h_this_number, .ref h_this_set, .ref h_this_constant, .int v_rules, .ref h_this_ruleKind, .ref h_this_ruleBit, .ref h_this_ruleOther, .int v_alone, .int v_halfBits, .ref h_this_oldSet, .ref h_this_oldNumber, .ref h_this_allSets, .ref h_this_allNumbers, .int v_allMany, .ref h_this_root])), (h_this_number, .inl (cI, 15625, .inl q_7)), (h_this_oldSet, .inl (cI, 300, .inl q_2)), (h_this_oldNumber, .inl (cI, 300, .inl q_3)), (h_this_set, .inl (cI, 6, .inl v_set)), (h_this_constant, .inl (cI, 6, .inl v_constant))]) C (c_Md_dropBit h_5) mi_Md_dropBit zw_658 (by decide) 0 rfl rfl [0, 1] (by decide) rfl rfl rfl rfl rfl (by decide) ⟨Nat.zero_le _, Nat.zero_le _⟩ d_Md_become_133 ?_
  refine z_iconst (v := 0) C d_Md_become_136 (by decide) ?_
  refine z_istore (lv' := [(5, .int (0 : Int32)), (0, .ref h_this), (1, .int x1), (2, .int x2), (3, .int x3), (4, .int y_1)]) C d_Md_become_137 (by decide) rfl ?_
  refine z_lv [1, 2, 3, 4, 5, 0] rfl ?_
  obtain ⟨q_8, h_9, hf⟩ := zb1_elim hf
  refine k_Md_become_l139_run C hr h_9 ?_
  refine z_iconst (v := 0) C d_Md_become_172 (by decide) ?_
  refine z_istore (lv' := [(5, .int (0 : Int32)), (0, .ref h_this), (1, .int x1), (2, .int x2), (3, .int x3)]) C d_Md_become_173 (by decide) rfl ?_
  refine z_lv [1, 2, 3, 4, 0] rfl ?_
  obtain ⟨q_10, q_11, h_12, hf⟩ := zb2_elim hf
  refine k_Md_become_l175_run C hr h_12 ?_
  cases hf
  exact z_vret C hr d_Md_become_240
theorem c_Md_become {l : Launch} {D : va_G} {cI cL : ClassId} {h_this h_this_number h_this_set h_this_constant h_this_ruleKind h_this_ruleBit h_this_ruleOther h_this_oldSet h_this_oldNumber h_this_allSets h_this_allNumbers h_this_root : Nat} {v_thrown v_wires v_isOpen v_isEmpty v_came v_there v_halves v_rules v_alone v_halfBits v_allMany o_there x1 x2 x3 : Int32} {v_number v_oldSet v_oldNumber v_set v_constant o_number o_oldSet o_oldNumber o_set o_constant : Nat → Int32} (hf : f_Md_become x1 x2 x3 v_wires v_there v_number v_oldSet v_oldNumber v_set v_constant = some (o_there, o_number, o_oldSet, o_oldNumber, o_set, o_constant)) : zM l y_Md_become (Cond.code y_Md_become b_Md_become 10 none :: zT) rm_Md_become D vwCl [(cI, .int), (cL, .long)] [.ref h_this, .int x1, .int x2, .int x3] [(h_this, .inr (5, [.int v_thrown, .int v_wires, .int v_isOpen, .int v_isEmpty, .int v_came, .int v_there, .int v_halves, .ref h_this_number, .ref h_this_set, .ref h_this_constant, .int v_rules, .ref h_this_ruleKind, .ref h_this_ruleBit, .ref h_this_ruleOther, .int v_alone, .int v_halfBits, .ref h_this_oldSet, .ref h_this_oldNumber, .ref h_this_allSets, .ref h_this_allNumbers, .int v_allMany, .ref h_this_root])), (h_this_number, .inl (cI, 15625, .inl v_number)), (h_this_oldSet, .inl (cI, 300, .inl v_oldSet)), (h_this_oldNumber, .inl (cI, 300, .inl v_oldNumber)), (h_this_set, .inl (cI, 6, .inl v_set)), (h_this_constant, .inl (cI, 6, .inl v_constant))] [(h_this, .inr (5, [.int v_thrown, .int v_wires, .int v_isOpen, .int v_isEmpty, .int v_came, .int o_there, .int v_halves, .ref h_this_number, .ref h_this_set, .ref h_this_constant, .int v_rules, .ref h_this_ruleKind, .ref h_this_ruleBit, .ref h_this_ruleOther, .int v_alone, .int v_halfBits, .ref h_this_oldSet, .ref h_this_oldNumber, .ref h_this_allSets, .ref h_this_allNumbers, .int v_allMany, .ref h_this_root])), (h_this_number, .inl (cI, 15625, .inl o_number)), (h_this_oldSet, .inl (cI, 300, .inl o_oldSet)), (h_this_oldNumber, .inl (cI, 300, .inl o_oldNumber)), (h_this_set, .inl (cI, 6, .inl o_set)), (h_this_constant, .inl (cI, 6, .inl o_constant))] (none) :=
  zM.intro (by decide) rfl (fun _ h => List.mem_cons_of_mem _ h) (Nat.le_of_ble_eq_true rfl) (fun _ _ _ _ _ _ _ C hr _ => k_Md_become C hr hf)
def rm_Md_doRule : Room := { frames := 4, cells := 0, slots := 0, locals := 103 }
def f_Md_doRule_j134 (x1 : Int32) (x2 : Int32) (x3 : Int32) (v_wires : Int32) (v_isOpen : Int32) (v_isEmpty : Int32) (v_there : Int32) (v_halves : Int32) (v_rules : Int32) (v_alone : Int32) (v_halfBits : Int32) (v_number : Nat → Int32) (v_set : Nat → Int32) (v_ruleKind : Nat → Int32) (v_ruleBit : Nat → Int32) (v_ruleOther : Nat → Int32) (v_oldSet : Nat → Int32) (v_oldNumber : Nat → Int32) (v_constant : Nat → Int32) : Option (Int32 × Int32 × Int32 × Int32 × (Nat → Int32) × (Nat → Int32) × (Nat → Int32) × (Nat → Int32) × (Nat → Int32) × (Nat → Int32) × (Nat → Int32) × (Nat → Int32)) :=
  if v_rules < 0 ∨ 24 ≤ v_rules.toNatClampNeg then none else
  zlet (upd v_ruleKind v_rules.toNatClampNeg x1) fun u_2 =>
  if v_rules < 0 ∨ 24 ≤ v_rules.toNatClampNeg then none else
  zlet (upd v_ruleBit v_rules.toNatClampNeg x2) fun u_4 =>
  if v_rules < 0 ∨ 24 ≤ v_rules.toNatClampNeg then none else
  zlet (upd v_ruleOther v_rules.toNatClampNeg x3) fun u_6 =>
  zlet (v_rules + (1 : Int32)) fun y_7 =>
  some (v_isEmpty, v_there, v_halves, y_7, v_number, v_set, u_2, u_4, u_6, v_oldSet, v_oldNumber, v_constant)
set_option maxRecDepth 100000 in
set_option maxHeartbeats 4000000 in
theorem k_Md_doRule_j134 {p : Program} {l : Launch} {e : Env} {s : State} {m : MethodId} {args : Array Value} {below : List Frame} {meth : Method} {c : Code} {D : va_G} {cI cL : ClassId} {h_this h_this_number h_this_set h_this_constant h_this_ruleKind h_this_ruleBit h_this_ruleOther h_this_oldSet h_this_oldNumber h_this_allSets h_this_allNumbers h_this_root : Nat} {v_thrown v_wires v_isOpen v_isEmpty v_came v_there v_halves v_rules v_alone v_halfBits v_allMany o_isEmpty o_there o_halves o_rules x1 x2 x3 : Int32} {v_number v_set v_ruleKind v_ruleBit v_ruleOther v_oldSet v_oldNumber v_constant o_number o_set o_ruleKind o_ruleBit o_ruleOther o_oldSet o_oldNumber o_constant : Nat → Int32}  (C : zC p s m args meth c b_Md_doRule 6 R_Md D vwCl [(cI, .int), (cL, .long)] (zA [h_this, h_this_number, h_this_set, h_this_ruleKind, h_this_ruleBit, h_this_ruleOther, h_this_oldSet, h_this_oldNumber, h_this_constant] s.heap.size)) (hr : meth.sig.returnType = none) (hf : f_Md_doRule_j134 x1 x2 x3 v_wires v_isOpen v_isEmpty v_there v_halves v_rules v_alone v_halfBits v_number v_set v_ruleKind v_ruleBit v_ruleOther v_oldSet v_oldNumber v_constant = some (o_isEmpty, o_there, o_halves, o_rules, o_number, o_set, o_ruleKind, o_ruleBit, o_ruleOther, o_oldSet, o_oldNumber, o_constant)) : ZV p l e rm_Md_doRule s m args below meth c 6 D (none) [(h_this, .inr (5, [.int v_thrown, .int v_wires, .int v_isOpen, .int o_isEmpty, .int v_came, .int o_there, .int o_halves, .ref h_this_number, .ref h_this_set, .ref h_this_constant, .int o_rules, .ref h_this_ruleKind, .ref h_this_ruleBit, .ref h_this_ruleOther, .int v_alone, .int v_halfBits, .ref h_this_oldSet, .ref h_this_oldNumber, .ref h_this_allSets, .ref h_this_allNumbers, .int v_allMany, .ref h_this_root])), (h_this_number, .inl (cI, 15625, .inl o_number)), (h_this_set, .inl (cI, 6, .inl o_set)), (h_this_ruleKind, .inl (cI, 24, .inl o_ruleKind)), (h_this_ruleBit, .inl (cI, 24, .inl o_ruleBit)), (h_this_ruleOther, .inl (cI, 24, .inl o_ruleOther)), (h_this_oldSet, .inl (cI, 300, .inl o_oldSet)), (h_this_oldNumber, .inl (cI, 300, .inl o_oldNumber)), (h_this_constant, .inl (cI, 6, .inl o_constant))] [h_this, h_this_number, h_this_set, h_this_ruleKind, h_this_ruleBit, h_this_ruleOther, h_this_oldSet, h_this_oldNumber, h_this_constant] [(h_this, .inr (5, [.int v_thrown, .int v_wires, .int v_isOpen, .int v_isEmpty, .int v_came, .int v_there, .int v_halves, .ref h_this_number, .ref h_this_set, .ref h_this_constant, .int v_rules, .ref h_this_ruleKind, .ref h_this_ruleBit, .ref h_this_ruleOther, .int v_alone, .int v_halfBits, .ref h_this_oldSet, .ref h_this_oldNumber, .ref h_this_allSets, .ref h_this_allNumbers, .int v_allMany, .ref h_this_root])), (h_this_number, .inl (cI, 15625, .inl v_number)), (h_this_set, .inl (cI, 6, .inl v_set)), (h_this_ruleKind, .inl (cI, 24, .inl v_ruleKind)), (h_this_ruleBit, .inl (cI, 24, .inl v_ruleBit)), (h_this_ruleOther, .inl (cI, 24, .inl v_ruleOther)), (h_this_oldSet, .inl (cI, 300, .inl v_oldSet)), (h_this_oldNumber, .inl (cI, 300, .inl v_oldNumber)), (h_this_constant, .inl (cI, 6, .inl v_constant))] 134 [(0, .ref h_this), (1, .int x1), (2, .int x2), (3, .int x3)] [] := by
  unfold f_Md_doRule_j134 at hf
  refine z_aload_n C d_Md_doRule_134 rfl 0 rfl ?_
  refine z_get C iw_Md 0 rfl rfl 11 (by decide) zw_509 rfl d_Md_doRule_135 ?_
  refine z_aload_n C d_Md_doRule_138 rfl 0 rfl ?_
  refine z_get C iw_Md 0 rfl rfl 10 (by decide) zw_508 rfl d_Md_doRule_139 ?_
  refine z_iload_n C d_Md_doRule_142 rfl 1 rfl ?_
  obtain ⟨g_1, hf⟩ := zguard hf
  obtain ⟨u_2, eu_2⟩ : ∃ u : Nat → Int32, u = upd v_ruleKind v_rules.toNatClampNeg x1 := ⟨_, rfl⟩
  have hf := zlet_at eu_2 hf
  refine z_iast (ws' := [(h_this, .inr (5, [.int v_thrown, .int v_wires, .int v_isOpen, .int v_isEmpty, .int v_came, .int v_there, .int v_halves, .ref h_this_number, .ref h_this_set, .ref h_this_constant, .int v_rules, .ref h_this_ruleKind, .ref h_this_ruleBit, .ref h_this_ruleOther, .int v_alone, .int v_halfBits, .ref h_this_oldSet, .ref h_this_oldNumber, .ref h_this_allSets, .ref h_this_allNumbers, .int v_allMany, .ref h_this_root])), (h_this_number, .inl (cI, 15625, .inl v_number)), (h_this_set, .inl (cI, 6, .inl v_set)), (h_this_ruleKind, .inl (cI, 24, .inl u_2)), (h_this_ruleBit, .inl (cI, 24, .inl v_ruleBit)), (h_this_ruleOther, .inl (cI, 24, .inl v_ruleOther)), (h_this_oldSet, .inl (cI, 300, .inl v_oldSet)), (h_this_oldNumber, .inl (cI, 300, .inl v_oldNumber)), (h_this_constant, .inl (cI, 6, .inl v_constant))]) C 3 0 rfl rfl g_1 d_Md_doRule_143 (by rw [eu_2]; rfl) ?_
  refine z_aload_n C d_Md_doRule_144 rfl 0 rfl ?_
  refine z_get C iw_Md 0 rfl rfl 12 (by decide) zw_510 rfl d_Md_doRule_145 ?_
  refine z_aload_n C d_Md_doRule_148 rfl 0 rfl ?_
  refine z_get C iw_Md 0 rfl rfl 10 (by decide) zw_508 rfl d_Md_doRule_149 ?_
  refine z_iload_n C d_Md_doRule_152 rfl 2 rfl ?_
  obtain ⟨g_3, hf⟩ := zguard hf
  obtain ⟨u_4, eu_4⟩ : ∃ u : Nat → Int32, u = upd v_ruleBit v_rules.toNatClampNeg x2 := ⟨_, rfl⟩
  have hf := zlet_at eu_4 hf
  refine z_iast (ws' := [(h_this, .inr (5, [.int v_thrown, .int v_wires, .int v_isOpen, .int v_isEmpty, .int v_came, .int v_there, .int v_halves, .ref h_this_number, .ref h_this_set, .ref h_this_constant, .int v_rules, .ref h_this_ruleKind, .ref h_this_ruleBit, .ref h_this_ruleOther, .int v_alone, .int v_halfBits, .ref h_this_oldSet, .ref h_this_oldNumber, .ref h_this_allSets, .ref h_this_allNumbers, .int v_allMany, .ref h_this_root])), (h_this_number, .inl (cI, 15625, .inl v_number)), (h_this_set, .inl (cI, 6, .inl v_set)), (h_this_ruleKind, .inl (cI, 24, .inl u_2)), (h_this_ruleBit, .inl (cI, 24, .inl u_4)), (h_this_ruleOther, .inl (cI, 24, .inl v_ruleOther)), (h_this_oldSet, .inl (cI, 300, .inl v_oldSet)), (h_this_oldNumber, .inl (cI, 300, .inl v_oldNumber)), (h_this_constant, .inl (cI, 6, .inl v_constant))]) C 4 0 rfl rfl g_3 d_Md_doRule_153 (by rw [eu_4]; rfl) ?_
  refine z_aload_n C d_Md_doRule_154 rfl 0 rfl ?_
  refine z_get C iw_Md 0 rfl rfl 13 (by decide) zw_511 rfl d_Md_doRule_155 ?_
  refine z_aload_n C d_Md_doRule_158 rfl 0 rfl ?_
  refine z_get C iw_Md 0 rfl rfl 10 (by decide) zw_508 rfl d_Md_doRule_159 ?_
  refine z_iload_n C d_Md_doRule_162 rfl 3 rfl ?_
  obtain ⟨g_5, hf⟩ := zguard hf
  obtain ⟨u_6, eu_6⟩ : ∃ u : Nat → Int32, u = upd v_ruleOther v_rules.toNatClampNeg x3 := ⟨_, rfl⟩
  have hf := zlet_at eu_6 hf
  refine z_iast (ws' := [(h_this, .inr (5, [.int v_thrown, .int v_wires, .int v_isOpen, .int v_isEmpty, .int v_came, .int v_there, .int v_halves, .ref h_this_number, .ref h_this_set, .ref h_this_constant, .int v_rules, .ref h_this_ruleKind, .ref h_this_ruleBit, .ref h_this_ruleOther, .int v_alone, .int v_halfBits, .ref h_this_oldSet, .ref h_this_oldNumber, .ref h_this_allSets, .ref h_this_allNumbers, .int v_allMany, .ref h_this_root])), (h_this_number, .inl (cI, 15625, .inl v_number)), (h_this_set, .inl (cI, 6, .inl v_set)), (h_this_ruleKind, .inl (cI, 24, .inl u_2)), (h_this_ruleBit, .inl (cI, 24, .inl u_4)), (h_this_ruleOther, .inl (cI, 24, .inl u_6)), (h_this_oldSet, .inl (cI, 300, .inl v_oldSet)), (h_this_oldNumber, .inl (cI, 300, .inl v_oldNumber)), (h_this_constant, .inl (cI, 6, .inl v_constant))]) C 5 0 rfl rfl g_5 d_Md_doRule_163 (by rw [eu_6]; rfl) ?_
  refine z_aload_n C d_Md_doRule_164 rfl 0 rfl ?_
  refine z_dup C d_Md_doRule_165 rfl ?_
  refine z_get C iw_Md 0 rfl rfl 10 (by decide) zw_508 rfl d_Md_doRule_166 ?_
  refine z_iconst (v := 1) C d_Md_doRule_169 (by decide) ?_
  refine z_iadd C d_Md_doRule_170 ?_
  refine z_topi (fun y_7 ey_7 => ?_)
  have hf := zlet_at ey_7 hf
  refine z_put (ws' := [(h_this, .inr (5, [.int v_thrown, .int v_wires, .int v_isOpen, .int v_isEmpty, .int v_came, .int v_there, .int v_halves, .ref h_this_number, .ref h_this_set, .ref h_this_constant, .int y_7, .ref h_this_ruleKind, .ref h_this_ruleBit, .ref h_this_ruleOther, .int v_alone, .int v_halfBits, .ref h_this_oldSet, .ref h_this_oldNumber, .ref h_this_allSets, .ref h_this_allNumbers, .int v_allMany, .ref h_this_root])), (h_this_number, .inl (cI, 15625, .inl v_number)), (h_this_set, .inl (cI, 6, .inl v_set)), (h_this_ruleKind, .inl (cI, 24, .inl u_2)), (h_this_ruleBit, .inl (cI, 24, .inl u_4)), (h_this_ruleOther, .inl (cI, 24, .inl u_6)), (h_this_oldSet, .inl (cI, 300, .inl v_oldSet)), (h_this_oldNumber, .inl (cI, 300, .inl v_oldNumber)), (h_this_constant, .inl (cI, 6, .inl v_constant))]) C iw_Md t_Md t_Md_ok n_Md 0 rfl rfl 10 (by decide) zw_508 rfl (ty := .int) rfl rfl rfl (by simp) d_Md_doRule_171 rfl ?_
  cases hf
  exact z_vret C hr d_Md_doRule_174
def f_Md_doRule_j130 (x1 : Int32) (x2 : Int32) (x3 : Int32) (t1 : Int32) (t2 : Int32) (t3 : Int32) (v_wires : Int32) (v_isOpen : Int32) (v_isEmpty : Int32) (v_there : Int32) (v_halves : Int32) (v_rules : Int32) (v_alone : Int32) (v_halfBits : Int32) (v_number : Nat → Int32) (v_set : Nat → Int32) (v_ruleKind : Nat → Int32) (v_ruleBit : Nat → Int32) (v_ruleOther : Nat → Int32) (v_oldSet : Nat → Int32) (v_oldNumber : Nat → Int32) (v_constant : Nat → Int32) : Option (Int32 × Int32 × Int32 × Int32 × (Nat → Int32) × (Nat → Int32) × (Nat → Int32) × (Nat → Int32) × (Nat → Int32) × (Nat → Int32) × (Nat → Int32) × (Nat → Int32)) :=
  zb1 (f_Md_addOr t1 t2 t3 (0 : Int32) v_number) fun q_2 =>
  f_Md_doRule_j134 x1 x2 x3 v_wires v_isOpen v_isEmpty v_there v_halves v_rules v_alone v_halfBits q_2 v_set v_ruleKind v_ruleBit v_ruleOther v_oldSet v_oldNumber v_constant
set_option maxRecDepth 100000 in
set_option maxHeartbeats 4000000 in
theorem k_Md_doRule_j130 {p : Program} {l : Launch} {e : Env} {s : State} {m : MethodId} {args : Array Value} {below : List Frame} {meth : Method} {c : Code} {D : va_G} {cI cL : ClassId} {h_this h_this_number h_this_set h_this_constant h_this_ruleKind h_this_ruleBit h_this_ruleOther h_this_oldSet h_this_oldNumber h_this_allSets h_this_allNumbers h_this_root : Nat} {v_thrown v_wires v_isOpen v_isEmpty v_came v_there v_halves v_rules v_alone v_halfBits v_allMany o_isEmpty o_there o_halves o_rules x1 x2 x3 : Int32} {v_number v_set v_ruleKind v_ruleBit v_ruleOther v_oldSet v_oldNumber v_constant o_number o_set o_ruleKind o_ruleBit o_ruleOther o_oldSet o_oldNumber o_constant : Nat → Int32} {t1 : Int32} {t2 : Int32} {t3 : Int32} (C : zC p s m args meth c b_Md_doRule 6 R_Md D vwCl [(cI, .int), (cL, .long)] (zA [h_this, h_this_number, h_this_set, h_this_ruleKind, h_this_ruleBit, h_this_ruleOther, h_this_oldSet, h_this_oldNumber, h_this_constant] s.heap.size)) (hr : meth.sig.returnType = none) (hf : f_Md_doRule_j130 x1 x2 x3 t1 t2 t3 v_wires v_isOpen v_isEmpty v_there v_halves v_rules v_alone v_halfBits v_number v_set v_ruleKind v_ruleBit v_ruleOther v_oldSet v_oldNumber v_constant = some (o_isEmpty, o_there, o_halves, o_rules, o_number, o_set, o_ruleKind, o_ruleBit, o_ruleOther, o_oldSet, o_oldNumber, o_constant)) : ZV p l e rm_Md_doRule s m args below meth c 6 D (none) [(h_this, .inr (5, [.int v_thrown, .int v_wires, .int v_isOpen, .int o_isEmpty, .int v_came, .int o_there, .int o_halves, .ref h_this_number, .ref h_this_set, .ref h_this_constant, .int o_rules, .ref h_this_ruleKind, .ref h_this_ruleBit, .ref h_this_ruleOther, .int v_alone, .int v_halfBits, .ref h_this_oldSet, .ref h_this_oldNumber, .ref h_this_allSets, .ref h_this_allNumbers, .int v_allMany, .ref h_this_root])), (h_this_number, .inl (cI, 15625, .inl o_number)), (h_this_set, .inl (cI, 6, .inl o_set)), (h_this_ruleKind, .inl (cI, 24, .inl o_ruleKind)), (h_this_ruleBit, .inl (cI, 24, .inl o_ruleBit)), (h_this_ruleOther, .inl (cI, 24, .inl o_ruleOther)), (h_this_oldSet, .inl (cI, 300, .inl o_oldSet)), (h_this_oldNumber, .inl (cI, 300, .inl o_oldNumber)), (h_this_constant, .inl (cI, 6, .inl o_constant))] [h_this, h_this_number, h_this_set, h_this_ruleKind, h_this_ruleBit, h_this_ruleOther, h_this_oldSet, h_this_oldNumber, h_this_constant] [(h_this, .inr (5, [.int v_thrown, .int v_wires, .int v_isOpen, .int v_isEmpty, .int v_came, .int v_there, .int v_halves, .ref h_this_number, .ref h_this_set, .ref h_this_constant, .int v_rules, .ref h_this_ruleKind, .ref h_this_ruleBit, .ref h_this_ruleOther, .int v_alone, .int v_halfBits, .ref h_this_oldSet, .ref h_this_oldNumber, .ref h_this_allSets, .ref h_this_allNumbers, .int v_allMany, .ref h_this_root])), (h_this_number, .inl (cI, 15625, .inl v_number)), (h_this_set, .inl (cI, 6, .inl v_set)), (h_this_ruleKind, .inl (cI, 24, .inl v_ruleKind)), (h_this_ruleBit, .inl (cI, 24, .inl v_ruleBit)), (h_this_ruleOther, .inl (cI, 24, .inl v_ruleOther)), (h_this_oldSet, .inl (cI, 300, .inl v_oldSet)), (h_this_oldNumber, .inl (cI, 300, .inl v_oldNumber)), (h_this_constant, .inl (cI, 6, .inl v_constant))] 130 [(0, .ref h_this), (1, .int x1), (2, .int x2), (3, .int x3)] [.int t3, .int t2, .int t1, .ref h_this] := by
  unfold f_Md_doRule_j130 at hf
  refine z_iconst (v := 0) C d_Md_doRule_130 (by decide) ?_
  obtain ⟨q_2, h_1, hf⟩ := zb1_elim hf
  refine z_callV (As := [.int t1, .int t2, .int t3, .int (0 : Int32)]) (rest := []) (ws' := [(h_this, .inr (5, [.int v_thrown, .int v_wires, .int v_isOpen, .int v_isEmpty, .int v_came, .int v_there, .int v_halves, .ref h_this_number, .ref h_this_set, .ref h_this_constant, .int v_rules, .ref h_this_ruleKind, .ref h_this_ruleBit, .ref h_this_ruleOther, .int v_alone, .int v_halfBits, .ref h_this_oldSet, .ref h_this_oldNumber, .ref h_this_allSets, .ref h_this_allNumbers, .int v_allMany, .ref h_this_root])), (h_this_number, .inl (cI, 15625, .inl q_2)), (h_this_set, .inl (cI, 6, .inl v_set)), (h_this_ruleKind, .inl (cI, 24, .inl v_ruleKind)), (h_this_ruleBit, .inl (cI, 24, .inl v_ruleBit)), (h_this_ruleOther, .inl (cI, 24, .inl v_ruleOther)), (h_this_oldSet, .inl (cI, 300, .inl v_oldSet)), (h_this_oldNumber, .inl (cI, 300, .inl v_oldNumber)), (h_this_constant, .inl (cI, 6, .inl v_constant))]) C (c_Md_addOr h_1) mi_Md_addOr zw_622 (by decide) 0 rfl rfl [0, 1] (by decide) rfl rfl rfl rfl rfl (by decide) ⟨Nat.zero_le _, Nat.zero_le _⟩ d_Md_doRule_131 ?_
  exact k_Md_doRule_j134 C hr hf
def f_Md_doRule_j111 (x1 : Int32) (x2 : Int32) (x3 : Int32) (x4 : Int32) (x5 : Int32) (t1 : Int32) (t2 : Int32) (v_wires : Int32) (v_isOpen : Int32) (v_isEmpty : Int32) (v_there : Int32) (v_halves : Int32) (v_rules : Int32) (v_alone : Int32) (v_halfBits : Int32) (v_number : Nat → Int32) (v_set : Nat → Int32) (v_ruleKind : Nat → Int32) (v_ruleBit : Nat → Int32) (v_ruleOther : Nat → Int32) (v_oldSet : Nat → Int32) (v_oldNumber : Nat → Int32) (v_constant : Nat → Int32) : Option (Int32 × Int32 × Int32 × Int32 × (Nat → Int32) × (Nat → Int32) × (Nat → Int32) × (Nat → Int32) × (Nat → Int32) × (Nat → Int32) × (Nat → Int32) × (Nat → Int32)) :=
  zb1 (f_Md_add t1 t2 v_number) fun q_2 =>
  if x5 = (2 : Int32) then (
    f_Md_doRule_j130 x1 x2 x3 x4 (0 : Int32) (6 : Int32) v_wires v_isOpen v_isEmpty v_there v_halves v_rules v_alone v_halfBits q_2 v_set v_ruleKind v_ruleBit v_ruleOther v_oldSet v_oldNumber v_constant)
  else (
    f_Md_doRule_j130 x1 x2 x3 x4 (0 : Int32) (2 : Int32) v_wires v_isOpen v_isEmpty v_there v_halves v_rules v_alone v_halfBits q_2 v_set v_ruleKind v_ruleBit v_ruleOther v_oldSet v_oldNumber v_constant)
set_option maxRecDepth 100000 in
set_option maxHeartbeats 4000000 in
theorem k_Md_doRule_j111 {p : Program} {l : Launch} {e : Env} {s : State} {m : MethodId} {args : Array Value} {below : List Frame} {meth : Method} {c : Code} {D : va_G} {cI cL : ClassId} {h_this h_this_number h_this_set h_this_constant h_this_ruleKind h_this_ruleBit h_this_ruleOther h_this_oldSet h_this_oldNumber h_this_allSets h_this_allNumbers h_this_root : Nat} {v_thrown v_wires v_isOpen v_isEmpty v_came v_there v_halves v_rules v_alone v_halfBits v_allMany o_isEmpty o_there o_halves o_rules x1 x2 x3 x4 x5 : Int32} {v_number v_set v_ruleKind v_ruleBit v_ruleOther v_oldSet v_oldNumber v_constant o_number o_set o_ruleKind o_ruleBit o_ruleOther o_oldSet o_oldNumber o_constant : Nat → Int32} {t1 : Int32} {t2 : Int32} (C : zC p s m args meth c b_Md_doRule 6 R_Md D vwCl [(cI, .int), (cL, .long)] (zA [h_this, h_this_number, h_this_set, h_this_ruleKind, h_this_ruleBit, h_this_ruleOther, h_this_oldSet, h_this_oldNumber, h_this_constant] s.heap.size)) (hr : meth.sig.returnType = none) (hf : f_Md_doRule_j111 x1 x2 x3 x4 x5 t1 t2 v_wires v_isOpen v_isEmpty v_there v_halves v_rules v_alone v_halfBits v_number v_set v_ruleKind v_ruleBit v_ruleOther v_oldSet v_oldNumber v_constant = some (o_isEmpty, o_there, o_halves, o_rules, o_number, o_set, o_ruleKind, o_ruleBit, o_ruleOther, o_oldSet, o_oldNumber, o_constant)) : ZV p l e rm_Md_doRule s m args below meth c 6 D (none) [(h_this, .inr (5, [.int v_thrown, .int v_wires, .int v_isOpen, .int o_isEmpty, .int v_came, .int o_there, .int o_halves, .ref h_this_number, .ref h_this_set, .ref h_this_constant, .int o_rules, .ref h_this_ruleKind, .ref h_this_ruleBit, .ref h_this_ruleOther, .int v_alone, .int v_halfBits, .ref h_this_oldSet, .ref h_this_oldNumber, .ref h_this_allSets, .ref h_this_allNumbers, .int v_allMany, .ref h_this_root])), (h_this_number, .inl (cI, 15625, .inl o_number)), (h_this_set, .inl (cI, 6, .inl o_set)), (h_this_ruleKind, .inl (cI, 24, .inl o_ruleKind)), (h_this_ruleBit, .inl (cI, 24, .inl o_ruleBit)), (h_this_ruleOther, .inl (cI, 24, .inl o_ruleOther)), (h_this_oldSet, .inl (cI, 300, .inl o_oldSet)), (h_this_oldNumber, .inl (cI, 300, .inl o_oldNumber)), (h_this_constant, .inl (cI, 6, .inl o_constant))] [h_this, h_this_number, h_this_set, h_this_ruleKind, h_this_ruleBit, h_this_ruleOther, h_this_oldSet, h_this_oldNumber, h_this_constant] [(h_this, .inr (5, [.int v_thrown, .int v_wires, .int v_isOpen, .int v_isEmpty, .int v_came, .int v_there, .int v_halves, .ref h_this_number, .ref h_this_set, .ref h_this_constant, .int v_rules, .ref h_this_ruleKind, .ref h_this_ruleBit, .ref h_this_ruleOther, .int v_alone, .int v_halfBits, .ref h_this_oldSet, .ref h_this_oldNumber, .ref h_this_allSets, .ref h_this_allNumbers, .int v_allMany, .ref h_this_root])), (h_this_number, .inl (cI, 15625, .inl v_number)), (h_this_set, .inl (cI, 6, .inl v_set)), (h_this_ruleKind, .inl (cI, 24, .inl v_ruleKind)), (h_this_ruleBit, .inl (cI, 24, .inl v_ruleBit)), (h_this_ruleOther, .inl (cI, 24, .inl v_ruleOther)), (h_this_oldSet, .inl (cI, 300, .inl v_oldSet)), (h_this_oldNumber, .inl (cI, 300, .inl v_oldNumber)), (h_this_constant, .inl (cI, 6, .inl v_constant))] 111 [(0, .ref h_this), (1, .int x1), (2, .int x2), (3, .int x3), (4, .int x4), (5, .int x5)] [.int t2, .int t1, .ref h_this] := by
  unfold f_Md_doRule_j111 at hf
  obtain ⟨q_2, h_1, hf⟩ := zb1_elim hf
  refine z_callV (As := [.int t1, .int t2]) (rest := []) (ws' := [(h_this, .inr (5, [.int v_thrown, .int v_wires, .int v_isOpen, .int v_isEmpty, .int v_came, .int v_there, .int v_halves, .ref h_this_number, .ref h_this_set, .ref h_this_constant, .int v_rules, .ref h_this_ruleKind, .ref h_this_ruleBit, .ref h_this_ruleOther, .int v_alone, .int v_halfBits, .ref h_this_oldSet, .ref h_this_oldNumber, .ref h_this_allSets, .ref h_this_allNumbers, .int v_allMany, .ref h_this_root])), (h_this_number, .inl (cI, 15625, .inl q_2)), (h_this_set, .inl (cI, 6, .inl v_set)), (h_this_ruleKind, .inl (cI, 24, .inl v_ruleKind)), (h_this_ruleBit, .inl (cI, 24, .inl v_ruleBit)), (h_this_ruleOther, .inl (cI, 24, .inl v_ruleOther)), (h_this_oldSet, .inl (cI, 300, .inl v_oldSet)), (h_this_oldNumber, .inl (cI, 300, .inl v_oldNumber)), (h_this_constant, .inl (cI, 6, .inl v_constant))]) C (c_Md_add h_1) mi_Md_add zw_601 (by decide) 0 rfl rfl [0, 1] (by decide) rfl rfl rfl rfl rfl (by decide) ⟨Nat.zero_le _, Nat.zero_le _⟩ d_Md_doRule_111 ?_
  refine z_aload_n C d_Md_doRule_114 rfl 0 rfl ?_
  refine z_iload C d_Md_doRule_115 4 rfl ?_
  refine z_iconst (v := 0) C d_Md_doRule_117 (by decide) ?_
  refine z_iload C d_Md_doRule_118 5 rfl ?_
  refine z_iconst (v := 2) C d_Md_doRule_120 (by decide) ?_
  refine z_icmp_ne (tgt := 129) C d_Md_doRule_121 (by decide) (fun c_3 => ?_) (fun c_3 => ?_)
  · have hf := zif_neg c_3 hf
    refine z_iconst (v := 2) C d_Md_doRule_129 (by decide) ?_
    refine z_lv [0, 1, 2, 3] rfl ?_
    exact k_Md_doRule_j130 C hr hf
  · have hf := zif_pos c_3 hf
    refine z_bipush (v := 6) C d_Md_doRule_124 (by decide) ?_
    refine z_goto (tgt := 130) C d_Md_doRule_126 (by decide) ?_
    refine z_lv [0, 1, 2, 3] rfl ?_
    exact k_Md_doRule_j130 C hr hf
def f_Md_doRule_j92 (x1 : Int32) (x2 : Int32) (x3 : Int32) (x4 : Int32) (x5 : Int32) (v_wires : Int32) (v_isOpen : Int32) (v_isEmpty : Int32) (v_there : Int32) (v_halves : Int32) (v_rules : Int32) (v_alone : Int32) (v_halfBits : Int32) (v_number : Nat → Int32) (v_set : Nat → Int32) (v_ruleKind : Nat → Int32) (v_ruleBit : Nat → Int32) (v_ruleOther : Nat → Int32) (v_oldSet : Nat → Int32) (v_oldNumber : Nat → Int32) (v_constant : Nat → Int32) : Option (Int32 × Int32 × Int32 × Int32 × (Nat → Int32) × (Nat → Int32) × (Nat → Int32) × (Nat → Int32) × (Nat → Int32) × (Nat → Int32) × (Nat → Int32) × (Nat → Int32)) :=
  if x1 = (4 : Int32) then (
    if x5 = (2 : Int32) then (
      f_Md_doRule_j111 x1 x2 x3 x4 x5 (0 : Int32) (1 : Int32) v_wires v_isOpen v_isEmpty v_there v_halves v_rules v_alone v_halfBits v_number v_set v_ruleKind v_ruleBit v_ruleOther v_oldSet v_oldNumber v_constant)
    else (
      f_Md_doRule_j111 x1 x2 x3 x4 x5 (0 : Int32) (7 : Int32) v_wires v_isOpen v_isEmpty v_there v_halves v_rules v_alone v_halfBits v_number v_set v_ruleKind v_ruleBit v_ruleOther v_oldSet v_oldNumber v_constant))
  else (
    f_Md_doRule_j134 x1 x2 x3 v_wires v_isOpen v_isEmpty v_there v_halves v_rules v_alone v_halfBits v_number v_set v_ruleKind v_ruleBit v_ruleOther v_oldSet v_oldNumber v_constant)
set_option maxRecDepth 100000 in
set_option maxHeartbeats 4000000 in
theorem k_Md_doRule_j92 {p : Program} {l : Launch} {e : Env} {s : State} {m : MethodId} {args : Array Value} {below : List Frame} {meth : Method} {c : Code} {D : va_G} {cI cL : ClassId} {h_this h_this_number h_this_set h_this_constant h_this_ruleKind h_this_ruleBit h_this_ruleOther h_this_oldSet h_this_oldNumber h_this_allSets h_this_allNumbers h_this_root : Nat} {v_thrown v_wires v_isOpen v_isEmpty v_came v_there v_halves v_rules v_alone v_halfBits v_allMany o_isEmpty o_there o_halves o_rules x1 x2 x3 x4 x5 : Int32} {v_number v_set v_ruleKind v_ruleBit v_ruleOther v_oldSet v_oldNumber v_constant o_number o_set o_ruleKind o_ruleBit o_ruleOther o_oldSet o_oldNumber o_constant : Nat → Int32}  (C : zC p s m args meth c b_Md_doRule 6 R_Md D vwCl [(cI, .int), (cL, .long)] (zA [h_this, h_this_number, h_this_set, h_this_ruleKind, h_this_ruleBit, h_this_ruleOther, h_this_oldSet, h_this_oldNumber, h_this_constant] s.heap.size)) (hr : meth.sig.returnType = none) (hf : f_Md_doRule_j92 x1 x2 x3 x4 x5 v_wires v_isOpen v_isEmpty v_there v_halves v_rules v_alone v_halfBits v_number v_set v_ruleKind v_ruleBit v_ruleOther v_oldSet v_oldNumber v_constant = some (o_isEmpty, o_there, o_halves, o_rules, o_number, o_set, o_ruleKind, o_ruleBit, o_ruleOther, o_oldSet, o_oldNumber, o_constant)) : ZV p l e rm_Md_doRule s m args below meth c 6 D (none) [(h_this, .inr (5, [.int v_thrown, .int v_wires, .int v_isOpen, .int o_isEmpty, .int v_came, .int o_there, .int o_halves, .ref h_this_number, .ref h_this_set, .ref h_this_constant, .int o_rules, .ref h_this_ruleKind, .ref h_this_ruleBit, .ref h_this_ruleOther, .int v_alone, .int v_halfBits, .ref h_this_oldSet, .ref h_this_oldNumber, .ref h_this_allSets, .ref h_this_allNumbers, .int v_allMany, .ref h_this_root])), (h_this_number, .inl (cI, 15625, .inl o_number)), (h_this_set, .inl (cI, 6, .inl o_set)), (h_this_ruleKind, .inl (cI, 24, .inl o_ruleKind)), (h_this_ruleBit, .inl (cI, 24, .inl o_ruleBit)), (h_this_ruleOther, .inl (cI, 24, .inl o_ruleOther)), (h_this_oldSet, .inl (cI, 300, .inl o_oldSet)), (h_this_oldNumber, .inl (cI, 300, .inl o_oldNumber)), (h_this_constant, .inl (cI, 6, .inl o_constant))] [h_this, h_this_number, h_this_set, h_this_ruleKind, h_this_ruleBit, h_this_ruleOther, h_this_oldSet, h_this_oldNumber, h_this_constant] [(h_this, .inr (5, [.int v_thrown, .int v_wires, .int v_isOpen, .int v_isEmpty, .int v_came, .int v_there, .int v_halves, .ref h_this_number, .ref h_this_set, .ref h_this_constant, .int v_rules, .ref h_this_ruleKind, .ref h_this_ruleBit, .ref h_this_ruleOther, .int v_alone, .int v_halfBits, .ref h_this_oldSet, .ref h_this_oldNumber, .ref h_this_allSets, .ref h_this_allNumbers, .int v_allMany, .ref h_this_root])), (h_this_number, .inl (cI, 15625, .inl v_number)), (h_this_set, .inl (cI, 6, .inl v_set)), (h_this_ruleKind, .inl (cI, 24, .inl v_ruleKind)), (h_this_ruleBit, .inl (cI, 24, .inl v_ruleBit)), (h_this_ruleOther, .inl (cI, 24, .inl v_ruleOther)), (h_this_oldSet, .inl (cI, 300, .inl v_oldSet)), (h_this_oldNumber, .inl (cI, 300, .inl v_oldNumber)), (h_this_constant, .inl (cI, 6, .inl v_constant))] 92 [(0, .ref h_this), (1, .int x1), (2, .int x2), (3, .int x3), (4, .int x4), (5, .int x5)] [] := by
  unfold f_Md_doRule_j92 at hf
  refine z_iload_n C d_Md_doRule_92 rfl 1 rfl ?_
  refine z_iconst (v := 4) C d_Md_doRule_93 (by decide) ?_
  refine z_icmp_ne (tgt := 134) C d_Md_doRule_94 (by decide) (fun c_1 => ?_) (fun c_1 => ?_)
  · have hf := zif_neg c_1 hf
    refine z_lv [0, 1, 2, 3] rfl ?_
    exact k_Md_doRule_j134 C hr hf
  · have hf := zif_pos c_1 hf
    refine z_aload_n C d_Md_doRule_97 rfl 0 rfl ?_
    refine z_iconst (v := 0) C d_Md_doRule_98 (by decide) ?_
    refine z_iload C d_Md_doRule_99 5 rfl ?_
    refine z_iconst (v := 2) C d_Md_doRule_101 (by decide) ?_
    refine z_icmp_ne (tgt := 109) C d_Md_doRule_102 (by decide) (fun c_2 => ?_) (fun c_2 => ?_)
    · have hf := zif_neg c_2 hf
      refine z_bipush (v := 7) C d_Md_doRule_109 (by decide) ?_
      exact k_Md_doRule_j111 C hr hf
    · have hf := zif_pos c_2 hf
      refine z_iconst (v := 1) C d_Md_doRule_105 (by decide) ?_
      refine z_goto (tgt := 111) C d_Md_doRule_106 (by decide) ?_
      exact k_Md_doRule_j111 C hr hf
def f_Md_doRule_j89 (x1 : Int32) (x2 : Int32) (x3 : Int32) (x4 : Int32) (x5 : Int32) (t1 : Int32) (t2 : Int32) (t3 : Int32) (v_wires : Int32) (v_isOpen : Int32) (v_isEmpty : Int32) (v_there : Int32) (v_halves : Int32) (v_rules : Int32) (v_alone : Int32) (v_halfBits : Int32) (v_number : Nat → Int32) (v_set : Nat → Int32) (v_ruleKind : Nat → Int32) (v_ruleBit : Nat → Int32) (v_ruleOther : Nat → Int32) (v_oldSet : Nat → Int32) (v_oldNumber : Nat → Int32) (v_constant : Nat → Int32) : Option (Int32 × Int32 × Int32 × Int32 × (Nat → Int32) × (Nat → Int32) × (Nat → Int32) × (Nat → Int32) × (Nat → Int32) × (Nat → Int32) × (Nat → Int32) × (Nat → Int32)) :=
  zb6 (f_Md_become t1 t2 t3 v_wires v_there v_number v_oldSet v_oldNumber v_set v_constant) fun q_2 q_3 q_4 q_5 q_6 q_7 =>
  f_Md_doRule_j92 x1 x2 x3 x4 x5 v_wires v_isOpen v_isEmpty q_2 v_halves v_rules v_alone v_halfBits q_3 q_6 v_ruleKind v_ruleBit v_ruleOther q_4 q_5 q_7
set_option maxRecDepth 100000 in
set_option maxHeartbeats 4000000 in
theorem k_Md_doRule_j89 {p : Program} {l : Launch} {e : Env} {s : State} {m : MethodId} {args : Array Value} {below : List Frame} {meth : Method} {c : Code} {D : va_G} {cI cL : ClassId} {h_this h_this_number h_this_set h_this_constant h_this_ruleKind h_this_ruleBit h_this_ruleOther h_this_oldSet h_this_oldNumber h_this_allSets h_this_allNumbers h_this_root : Nat} {v_thrown v_wires v_isOpen v_isEmpty v_came v_there v_halves v_rules v_alone v_halfBits v_allMany o_isEmpty o_there o_halves o_rules x1 x2 x3 x4 x5 : Int32} {v_number v_set v_ruleKind v_ruleBit v_ruleOther v_oldSet v_oldNumber v_constant o_number o_set o_ruleKind o_ruleBit o_ruleOther o_oldSet o_oldNumber o_constant : Nat → Int32} {t1 : Int32} {t2 : Int32} {t3 : Int32} (C : zC p s m args meth c b_Md_doRule 6 R_Md D vwCl [(cI, .int), (cL, .long)] (zA [h_this, h_this_number, h_this_set, h_this_ruleKind, h_this_ruleBit, h_this_ruleOther, h_this_oldSet, h_this_oldNumber, h_this_constant] s.heap.size)) (hr : meth.sig.returnType = none) (hf : f_Md_doRule_j89 x1 x2 x3 x4 x5 t1 t2 t3 v_wires v_isOpen v_isEmpty v_there v_halves v_rules v_alone v_halfBits v_number v_set v_ruleKind v_ruleBit v_ruleOther v_oldSet v_oldNumber v_constant = some (o_isEmpty, o_there, o_halves, o_rules, o_number, o_set, o_ruleKind, o_ruleBit, o_ruleOther, o_oldSet, o_oldNumber, o_constant)) : ZV p l e rm_Md_doRule s m args below meth c 6 D (none) [(h_this, .inr (5, [.int v_thrown, .int v_wires, .int v_isOpen, .int o_isEmpty, .int v_came, .int o_there, .int o_halves, .ref h_this_number, .ref h_this_set, .ref h_this_constant, .int o_rules, .ref h_this_ruleKind, .ref h_this_ruleBit, .ref h_this_ruleOther, .int v_alone, .int v_halfBits, .ref h_this_oldSet, .ref h_this_oldNumber, .ref h_this_allSets, .ref h_this_allNumbers, .int v_allMany, .ref h_this_root])), (h_this_number, .inl (cI, 15625, .inl o_number)), (h_this_set, .inl (cI, 6, .inl o_set)), (h_this_ruleKind, .inl (cI, 24, .inl o_ruleKind)), (h_this_ruleBit, .inl (cI, 24, .inl o_ruleBit)), (h_this_ruleOther, .inl (cI, 24, .inl o_ruleOther)), (h_this_oldSet, .inl (cI, 300, .inl o_oldSet)), (h_this_oldNumber, .inl (cI, 300, .inl o_oldNumber)), (h_this_constant, .inl (cI, 6, .inl o_constant))] [h_this, h_this_number, h_this_set, h_this_ruleKind, h_this_ruleBit, h_this_ruleOther, h_this_oldSet, h_this_oldNumber, h_this_constant] [(h_this, .inr (5, [.int v_thrown, .int v_wires, .int v_isOpen, .int v_isEmpty, .int v_came, .int v_there, .int v_halves, .ref h_this_number, .ref h_this_set, .ref h_this_constant, .int v_rules, .ref h_this_ruleKind, .ref h_this_ruleBit, .ref h_this_ruleOther, .int v_alone, .int v_halfBits, .ref h_this_oldSet, .ref h_this_oldNumber, .ref h_this_allSets, .ref h_this_allNumbers, .int v_allMany, .ref h_this_root])), (h_this_number, .inl (cI, 15625, .inl v_number)), (h_this_set, .inl (cI, 6, .inl v_set)), (h_this_ruleKind, .inl (cI, 24, .inl v_ruleKind)), (h_this_ruleBit, .inl (cI, 24, .inl v_ruleBit)), (h_this_ruleOther, .inl (cI, 24, .inl v_ruleOther)), (h_this_oldSet, .inl (cI, 300, .inl v_oldSet)), (h_this_oldNumber, .inl (cI, 300, .inl v_oldNumber)), (h_this_constant, .inl (cI, 6, .inl v_constant))] 89 [(0, .ref h_this), (1, .int x1), (2, .int x2), (3, .int x3), (4, .int x4), (5, .int x5)] [.int t3, .int t2, .int t1, .ref h_this] := by
  unfold f_Md_doRule_j89 at hf
  obtain ⟨q_2, q_3, q_4, q_5, q_6, q_7, h_1, hf⟩ := zb6_elim hf
  refine z_callV (As := [.int t1, .int t2, .int t3]) (rest := []) (ws' := [(h_this, .inr (5, [.int v_thrown, .int v_wires, .int v_isOpen, .int v_isEmpty, .int v_came, .int q_2, .int v_halves, .ref h_this_number, .ref h_this_set, .ref h_this_constant, .int v_rules, .ref h_this_ruleKind, .ref h_this_ruleBit, .ref h_this_ruleOther, .int v_alone, .int v_halfBits, .ref h_this_oldSet, .ref h_this_oldNumber, .ref h_this_allSets, .ref h_this_allNumbers, .int v_allMany, .ref h_this_root])), (h_this_number, .inl (cI, 15625, .inl q_3)), (h_this_set, .inl (cI, 6, .inl q_6)), (h_this_ruleKind, .inl (cI, 24, .inl v_ruleKind)), (h_this_ruleBit, .inl (cI, 24, .inl v_ruleBit)), (h_this_ruleOther, .inl (cI, 24, .inl v_ruleOther)), (h_this_oldSet, .inl (cI, 300, .inl q_4)), (h_this_oldNumber, .inl (cI, 300, .inl q_5)), (h_this_constant, .inl (cI, 6, .inl q_7))]) C (c_Md_become h_1) mi_Md_become zw_665 (by decide) 0 rfl rfl [0, 1, 6, 7, 2, 8] (by decide) rfl rfl rfl rfl rfl (by decide) ⟨Nat.zero_le _, Nat.zero_le _⟩ d_Md_doRule_89 ?_
  exact k_Md_doRule_j92 C hr hf
def f_Md_doRule_j50 (x1 : Int32) (x2 : Int32) (x3 : Int32) (x4 : Int32) (x5 : Int32) (v_wires : Int32) (v_isOpen : Int32) (v_isEmpty : Int32) (v_there : Int32) (v_halves : Int32) (v_rules : Int32) (v_alone : Int32) (v_halfBits : Int32) (v_number : Nat → Int32) (v_set : Nat → Int32) (v_ruleKind : Nat → Int32) (v_ruleBit : Nat → Int32) (v_ruleOther : Nat → Int32) (v_oldSet : Nat → Int32) (v_oldNumber : Nat → Int32) (v_constant : Nat → Int32) : Option (Int32 × Int32 × Int32 × Int32 × (Nat → Int32) × (Nat → Int32) × (Nat → Int32) × (Nat → Int32) × (Nat → Int32) × (Nat → Int32) × (Nat → Int32) × (Nat → Int32)) :=
  if x1 = (3 : Int32) then (
    zb1 (f_Md_greatest (x4 &&& ((f_Md_inputs v_wires v_isOpen) ^^^ (-1 : Int32)))) fun r_4 =>
    if x5 = (4 : Int32) then (
      f_Md_doRule_j89 x1 x2 r_4 x4 x5 r_4 (x4 &&& (((1 : Int32) <<< (r_4 &&& 31)) ^^^ (-1 : Int32))) (1 : Int32) v_wires v_isOpen v_isEmpty v_there v_halves v_rules v_alone v_halfBits v_number v_set v_ruleKind v_ruleBit v_ruleOther v_oldSet v_oldNumber v_constant)
    else (
      f_Md_doRule_j89 x1 x2 r_4 x4 x5 r_4 (x4 &&& (((1 : Int32) <<< (r_4 &&& 31)) ^^^ (-1 : Int32))) (0 : Int32) v_wires v_isOpen v_isEmpty v_there v_halves v_rules v_alone v_halfBits v_number v_set v_ruleKind v_ruleBit v_ruleOther v_oldSet v_oldNumber v_constant))
  else (
    f_Md_doRule_j92 x1 x2 x3 x4 x5 v_wires v_isOpen v_isEmpty v_there v_halves v_rules v_alone v_halfBits v_number v_set v_ruleKind v_ruleBit v_ruleOther v_oldSet v_oldNumber v_constant)
set_option maxRecDepth 100000 in
set_option maxHeartbeats 4000000 in
theorem k_Md_doRule_j50 {p : Program} {l : Launch} {e : Env} {s : State} {m : MethodId} {args : Array Value} {below : List Frame} {meth : Method} {c : Code} {D : va_G} {cI cL : ClassId} {h_this h_this_number h_this_set h_this_constant h_this_ruleKind h_this_ruleBit h_this_ruleOther h_this_oldSet h_this_oldNumber h_this_allSets h_this_allNumbers h_this_root : Nat} {v_thrown v_wires v_isOpen v_isEmpty v_came v_there v_halves v_rules v_alone v_halfBits v_allMany o_isEmpty o_there o_halves o_rules x1 x2 x3 x4 x5 : Int32} {v_number v_set v_ruleKind v_ruleBit v_ruleOther v_oldSet v_oldNumber v_constant o_number o_set o_ruleKind o_ruleBit o_ruleOther o_oldSet o_oldNumber o_constant : Nat → Int32}  (C : zC p s m args meth c b_Md_doRule 6 R_Md D vwCl [(cI, .int), (cL, .long)] (zA [h_this, h_this_number, h_this_set, h_this_ruleKind, h_this_ruleBit, h_this_ruleOther, h_this_oldSet, h_this_oldNumber, h_this_constant] s.heap.size)) (hr : meth.sig.returnType = none) (hf : f_Md_doRule_j50 x1 x2 x3 x4 x5 v_wires v_isOpen v_isEmpty v_there v_halves v_rules v_alone v_halfBits v_number v_set v_ruleKind v_ruleBit v_ruleOther v_oldSet v_oldNumber v_constant = some (o_isEmpty, o_there, o_halves, o_rules, o_number, o_set, o_ruleKind, o_ruleBit, o_ruleOther, o_oldSet, o_oldNumber, o_constant)) : ZV p l e rm_Md_doRule s m args below meth c 6 D (none) [(h_this, .inr (5, [.int v_thrown, .int v_wires, .int v_isOpen, .int o_isEmpty, .int v_came, .int o_there, .int o_halves, .ref h_this_number, .ref h_this_set, .ref h_this_constant, .int o_rules, .ref h_this_ruleKind, .ref h_this_ruleBit, .ref h_this_ruleOther, .int v_alone, .int v_halfBits, .ref h_this_oldSet, .ref h_this_oldNumber, .ref h_this_allSets, .ref h_this_allNumbers, .int v_allMany, .ref h_this_root])), (h_this_number, .inl (cI, 15625, .inl o_number)), (h_this_set, .inl (cI, 6, .inl o_set)), (h_this_ruleKind, .inl (cI, 24, .inl o_ruleKind)), (h_this_ruleBit, .inl (cI, 24, .inl o_ruleBit)), (h_this_ruleOther, .inl (cI, 24, .inl o_ruleOther)), (h_this_oldSet, .inl (cI, 300, .inl o_oldSet)), (h_this_oldNumber, .inl (cI, 300, .inl o_oldNumber)), (h_this_constant, .inl (cI, 6, .inl o_constant))] [h_this, h_this_number, h_this_set, h_this_ruleKind, h_this_ruleBit, h_this_ruleOther, h_this_oldSet, h_this_oldNumber, h_this_constant] [(h_this, .inr (5, [.int v_thrown, .int v_wires, .int v_isOpen, .int v_isEmpty, .int v_came, .int v_there, .int v_halves, .ref h_this_number, .ref h_this_set, .ref h_this_constant, .int v_rules, .ref h_this_ruleKind, .ref h_this_ruleBit, .ref h_this_ruleOther, .int v_alone, .int v_halfBits, .ref h_this_oldSet, .ref h_this_oldNumber, .ref h_this_allSets, .ref h_this_allNumbers, .int v_allMany, .ref h_this_root])), (h_this_number, .inl (cI, 15625, .inl v_number)), (h_this_set, .inl (cI, 6, .inl v_set)), (h_this_ruleKind, .inl (cI, 24, .inl v_ruleKind)), (h_this_ruleBit, .inl (cI, 24, .inl v_ruleBit)), (h_this_ruleOther, .inl (cI, 24, .inl v_ruleOther)), (h_this_oldSet, .inl (cI, 300, .inl v_oldSet)), (h_this_oldNumber, .inl (cI, 300, .inl v_oldNumber)), (h_this_constant, .inl (cI, 6, .inl v_constant))] 50 [(0, .ref h_this), (1, .int x1), (2, .int x2), (3, .int x3), (4, .int x4), (5, .int x5)] [] := by
  unfold f_Md_doRule_j50 at hf
  refine z_iload_n C d_Md_doRule_50 rfl 1 rfl ?_
  refine z_iconst (v := 3) C d_Md_doRule_51 (by decide) ?_
  refine z_icmp_ne (tgt := 92) C d_Md_doRule_52 (by decide) (fun c_1 => ?_) (fun c_1 => ?_)
  · have hf := zif_neg c_1 hf
    exact k_Md_doRule_j92 C hr hf
  · have hf := zif_pos c_1 hf
    refine z_iload C d_Md_doRule_55 4 rfl ?_
    refine z_aload_n C d_Md_doRule_57 rfl 0 rfl ?_
    refine z_callV (As := []) (rest := [.int x4]) (ws' := [(h_this, .inr (5, [.int v_thrown, .int v_wires, .int v_isOpen, .int v_isEmpty, .int v_came, .int v_there, .int v_halves, .ref h_this_number, .ref h_this_set, .ref h_this_constant, .int v_rules, .ref h_this_ruleKind, .ref h_this_ruleBit, .ref h_this_ruleOther, .int v_alone, .int v_halfBits, .ref h_this_oldSet, .ref h_this_oldNumber, .ref h_this_allSets, .ref h_this_allNumbers, .int v_allMany, .ref h_this_root])), (h_this_number, .inl (cI, 15625, .inl v_number)), (h_this_set, .inl (cI, 6, .inl v_set)), (h_this_ruleKind, .inl (cI, 24, .inl v_ruleKind)), (h_this_ruleBit, .inl (cI, 24, .inl v_ruleBit)), (h_this_ruleOther, .inl (cI, 24, .inl v_ruleOther)), (h_this_oldSet, .inl (cI, 300, .inl v_oldSet)), (h_this_oldNumber, .inl (cI, 300, .inl v_oldNumber)), (h_this_constant, .inl (cI, 6, .inl v_constant))]) C (c_Md_inputs rfl) mi_Md_inputs zw_638 (by decide) 0 rfl rfl [0] (by decide) rfl rfl rfl rfl rfl (by decide) ⟨Nat.zero_le _, Nat.zero_le _⟩ d_Md_doRule_58 ?_
    refine z_iconst (v := -1) C d_Md_doRule_61 (by decide) ?_
    refine z_ixor C d_Md_doRule_62 ?_
    refine z_iand C d_Md_doRule_63 ?_
    obtain ⟨r_4, h_3, hf⟩ := zb1_elim hf
    refine z_callS (As := [.int (x4 &&& ((f_Md_inputs v_wires v_isOpen) ^^^ (-1 : Int32)))]) (rest := []) (ws' := [(h_this, .inr (5, [.int v_thrown, .int v_wires, .int v_isOpen, .int v_isEmpty, .int v_came, .int v_there, .int v_halves, .ref h_this_number, .ref h_this_set, .ref h_this_constant, .int v_rules, .ref h_this_ruleKind, .ref h_this_ruleBit, .ref h_this_ruleOther, .int v_alone, .int v_halfBits, .ref h_this_oldSet, .ref h_this_oldNumber, .ref h_this_allSets, .ref h_this_allNumbers, .int v_allMany, .ref h_this_root])), (h_this_number, .inl (cI, 15625, .inl v_number)), (h_this_set, .inl (cI, 6, .inl v_set)), (h_this_ruleKind, .inl (cI, 24, .inl v_ruleKind)), (h_this_ruleBit, .inl (cI, 24, .inl v_ruleBit)), (h_this_ruleOther, .inl (cI, 24, .inl v_ruleOther)), (h_this_oldSet, .inl (cI, 300, .inl v_oldSet)), (h_this_oldNumber, .inl (cI, 300, .inl v_oldNumber)), (h_this_constant, .inl (cI, 6, .inl v_constant))]) C (c_Md_greatest h_3) mi_Md_greatest zw_662 (by decide) [] (by decide) rfl rfl rfl rfl rfl (by decide) ⟨Nat.zero_le _, Nat.zero_le _⟩ d_Md_doRule_64 ?_
    refine z_istore_n (lv' := [(3, .int r_4), (0, .ref h_this), (1, .int x1), (2, .int x2), (4, .int x4), (5, .int x5)]) C d_Md_doRule_67 rfl (by decide) rfl ?_
    refine z_aload_n C d_Md_doRule_68 rfl 1 rfl ?_
    refine z_iload_n C d_Md_doRule_69 rfl 0 rfl ?_
    refine z_iload C d_Md_doRule_70 4 rfl ?_
    refine z_iconst (v := 1) C d_Md_doRule_72 (by decide) ?_
    refine z_iload_n C d_Md_doRule_73 rfl 0 rfl ?_
    refine z_ishl C d_Md_doRule_74 ?_
    refine z_iconst (v := -1) C d_Md_doRule_75 (by decide) ?_
    refine z_ixor C d_Md_doRule_76 ?_
    refine z_iand C d_Md_doRule_77 ?_
    refine z_iload C d_Md_doRule_78 5 rfl ?_
    refine z_iconst (v := 4) C d_Md_doRule_80 (by decide) ?_
    refine z_icmp_ne (tgt := 88) C d_Md_doRule_81 (by decide) (fun c_5 => ?_) (fun c_5 => ?_)
    · have hf := zif_neg c_5 hf
      refine z_iconst (v := 0) C d_Md_doRule_88 (by decide) ?_
      refine z_lv [1, 2, 3, 0, 4, 5] rfl ?_
      exact k_Md_doRule_j89 C hr hf
    · have hf := zif_pos c_5 hf
      refine z_iconst (v := 1) C d_Md_doRule_84 (by decide) ?_
      refine z_goto (tgt := 89) C d_Md_doRule_85 (by decide) ?_
      refine z_lv [1, 2, 3, 0, 4, 5] rfl ?_
      exact k_Md_doRule_j89 C hr hf
def f_Md_doRule_j46 (x1 : Int32) (x2 : Int32) (x3 : Int32) (x4 : Int32) (x5 : Int32) (t1 : Int32) (t2 : Int32) (v_wires : Int32) (v_isOpen : Int32) (v_isEmpty : Int32) (v_there : Int32) (v_halves : Int32) (v_rules : Int32) (v_alone : Int32) (v_halfBits : Int32) (v_number : Nat → Int32) (v_set : Nat → Int32) (v_ruleKind : Nat → Int32) (v_ruleBit : Nat → Int32) (v_ruleOther : Nat → Int32) (v_oldSet : Nat → Int32) (v_oldNumber : Nat → Int32) (v_constant : Nat → Int32) : Option (Int32 × Int32 × Int32 × Int32 × (Nat → Int32) × (Nat → Int32) × (Nat → Int32) × (Nat → Int32) × (Nat → Int32) × (Nat → Int32) × (Nat → Int32) × (Nat → Int32)) :=
  zlet (t1 - t2) fun y_1 =>
  f_Md_doRule_j50 x1 x2 x3 x4 x5 v_wires v_isOpen v_isEmpty v_there y_1 v_rules v_alone v_halfBits v_number v_set v_ruleKind v_ruleBit v_ruleOther v_oldSet v_oldNumber v_constant
set_option maxRecDepth 100000 in
set_option maxHeartbeats 4000000 in
theorem k_Md_doRule_j46 {p : Program} {l : Launch} {e : Env} {s : State} {m : MethodId} {args : Array Value} {below : List Frame} {meth : Method} {c : Code} {D : va_G} {cI cL : ClassId} {h_this h_this_number h_this_set h_this_constant h_this_ruleKind h_this_ruleBit h_this_ruleOther h_this_oldSet h_this_oldNumber h_this_allSets h_this_allNumbers h_this_root : Nat} {v_thrown v_wires v_isOpen v_isEmpty v_came v_there v_halves v_rules v_alone v_halfBits v_allMany o_isEmpty o_there o_halves o_rules x1 x2 x3 x4 x5 : Int32} {v_number v_set v_ruleKind v_ruleBit v_ruleOther v_oldSet v_oldNumber v_constant o_number o_set o_ruleKind o_ruleBit o_ruleOther o_oldSet o_oldNumber o_constant : Nat → Int32} {t1 : Int32} {t2 : Int32} (C : zC p s m args meth c b_Md_doRule 6 R_Md D vwCl [(cI, .int), (cL, .long)] (zA [h_this, h_this_number, h_this_set, h_this_ruleKind, h_this_ruleBit, h_this_ruleOther, h_this_oldSet, h_this_oldNumber, h_this_constant] s.heap.size)) (hr : meth.sig.returnType = none) (hf : f_Md_doRule_j46 x1 x2 x3 x4 x5 t1 t2 v_wires v_isOpen v_isEmpty v_there v_halves v_rules v_alone v_halfBits v_number v_set v_ruleKind v_ruleBit v_ruleOther v_oldSet v_oldNumber v_constant = some (o_isEmpty, o_there, o_halves, o_rules, o_number, o_set, o_ruleKind, o_ruleBit, o_ruleOther, o_oldSet, o_oldNumber, o_constant)) : ZV p l e rm_Md_doRule s m args below meth c 6 D (none) [(h_this, .inr (5, [.int v_thrown, .int v_wires, .int v_isOpen, .int o_isEmpty, .int v_came, .int o_there, .int o_halves, .ref h_this_number, .ref h_this_set, .ref h_this_constant, .int o_rules, .ref h_this_ruleKind, .ref h_this_ruleBit, .ref h_this_ruleOther, .int v_alone, .int v_halfBits, .ref h_this_oldSet, .ref h_this_oldNumber, .ref h_this_allSets, .ref h_this_allNumbers, .int v_allMany, .ref h_this_root])), (h_this_number, .inl (cI, 15625, .inl o_number)), (h_this_set, .inl (cI, 6, .inl o_set)), (h_this_ruleKind, .inl (cI, 24, .inl o_ruleKind)), (h_this_ruleBit, .inl (cI, 24, .inl o_ruleBit)), (h_this_ruleOther, .inl (cI, 24, .inl o_ruleOther)), (h_this_oldSet, .inl (cI, 300, .inl o_oldSet)), (h_this_oldNumber, .inl (cI, 300, .inl o_oldNumber)), (h_this_constant, .inl (cI, 6, .inl o_constant))] [h_this, h_this_number, h_this_set, h_this_ruleKind, h_this_ruleBit, h_this_ruleOther, h_this_oldSet, h_this_oldNumber, h_this_constant] [(h_this, .inr (5, [.int v_thrown, .int v_wires, .int v_isOpen, .int v_isEmpty, .int v_came, .int v_there, .int v_halves, .ref h_this_number, .ref h_this_set, .ref h_this_constant, .int v_rules, .ref h_this_ruleKind, .ref h_this_ruleBit, .ref h_this_ruleOther, .int v_alone, .int v_halfBits, .ref h_this_oldSet, .ref h_this_oldNumber, .ref h_this_allSets, .ref h_this_allNumbers, .int v_allMany, .ref h_this_root])), (h_this_number, .inl (cI, 15625, .inl v_number)), (h_this_set, .inl (cI, 6, .inl v_set)), (h_this_ruleKind, .inl (cI, 24, .inl v_ruleKind)), (h_this_ruleBit, .inl (cI, 24, .inl v_ruleBit)), (h_this_ruleOther, .inl (cI, 24, .inl v_ruleOther)), (h_this_oldSet, .inl (cI, 300, .inl v_oldSet)), (h_this_oldNumber, .inl (cI, 300, .inl v_oldNumber)), (h_this_constant, .inl (cI, 6, .inl v_constant))] 46 [(0, .ref h_this), (1, .int x1), (2, .int x2), (3, .int x3), (4, .int x4), (5, .int x5)] [.int t2, .int t1, .ref h_this] := by
  unfold f_Md_doRule_j46 at hf
  refine z_isub C d_Md_doRule_46 ?_
  refine z_topi (fun y_1 ey_1 => ?_)
  have hf := zlet_at ey_1 hf
  refine z_put (ws' := [(h_this, .inr (5, [.int v_thrown, .int v_wires, .int v_isOpen, .int v_isEmpty, .int v_came, .int v_there, .int y_1, .ref h_this_number, .ref h_this_set, .ref h_this_constant, .int v_rules, .ref h_this_ruleKind, .ref h_this_ruleBit, .ref h_this_ruleOther, .int v_alone, .int v_halfBits, .ref h_this_oldSet, .ref h_this_oldNumber, .ref h_this_allSets, .ref h_this_allNumbers, .int v_allMany, .ref h_this_root])), (h_this_number, .inl (cI, 15625, .inl v_number)), (h_this_set, .inl (cI, 6, .inl v_set)), (h_this_ruleKind, .inl (cI, 24, .inl v_ruleKind)), (h_this_ruleBit, .inl (cI, 24, .inl v_ruleBit)), (h_this_ruleOther, .inl (cI, 24, .inl v_ruleOther)), (h_this_oldSet, .inl (cI, 300, .inl v_oldSet)), (h_this_oldNumber, .inl (cI, 300, .inl v_oldNumber)), (h_this_constant, .inl (cI, 6, .inl v_constant))]) C iw_Md t_Md t_Md_ok n_Md 0 rfl rfl 6 (by decide) zw_504 rfl (ty := .int) rfl rfl rfl (by simp) d_Md_doRule_47 rfl ?_
  exact k_Md_doRule_j50 C hr hf
/-- PathSumsModel.doRule(II)V -/
def f_Md_doRule (x1 : Int32) (x2 : Int32) (v_wires : Int32) (v_isOpen : Int32) (v_isEmpty : Int32) (v_there : Int32) (v_halves : Int32) (v_rules : Int32) (v_alone : Int32) (v_halfBits : Int32) (v_number : Nat → Int32) (v_set : Nat → Int32) (v_ruleKind : Nat → Int32) (v_ruleBit : Nat → Int32) (v_ruleOther : Nat → Int32) (v_oldSet : Nat → Int32) (v_oldNumber : Nat → Int32) (v_constant : Nat → Int32) : Option (Int32 × Int32 × Int32 × Int32 × (Nat → Int32) × (Nat → Int32) × (Nat → Int32) × (Nat → Int32) × (Nat → Int32) × (Nat → Int32) × (Nat → Int32) × (Nat → Int32)) :=
  if x1 = (2 : Int32) then (
    zb5 (f_Md_empty v_wires v_isOpen v_isEmpty v_there v_halves v_number v_set) fun q_3 q_4 q_5 q_6 q_7 =>
    f_Md_doRule_j50 x1 x2 (-1 : Int32) v_halfBits v_alone v_wires v_isOpen q_3 q_4 q_5 v_rules v_alone v_halfBits q_6 q_7 v_ruleKind v_ruleBit v_ruleOther v_oldSet v_oldNumber v_constant)
  else (
    zb2 (f_Md_dropBit x2 v_there v_number) fun q_9 q_10 =>
    if x1 = (4 : Int32) then (
      f_Md_doRule_j46 x1 x2 (-1 : Int32) v_halfBits v_alone v_halves (1 : Int32) v_wires v_isOpen v_isEmpty q_9 v_halves v_rules v_alone v_halfBits q_10 v_set v_ruleKind v_ruleBit v_ruleOther v_oldSet v_oldNumber v_constant)
    else (
      f_Md_doRule_j46 x1 x2 (-1 : Int32) v_halfBits v_alone v_halves (2 : Int32) v_wires v_isOpen v_isEmpty q_9 v_halves v_rules v_alone v_halfBits q_10 v_set v_ruleKind v_ruleBit v_ruleOther v_oldSet v_oldNumber v_constant))
set_option maxRecDepth 100000 in
set_option maxHeartbeats 4000000 in
theorem k_Md_doRule {p : Program} {l : Launch} {e : Env} {s : State} {m : MethodId} {args : Array Value} {below : List Frame} {meth : Method} {c : Code} {D : va_G} {cI cL : ClassId} {h_this h_this_number h_this_set h_this_constant h_this_ruleKind h_this_ruleBit h_this_ruleOther h_this_oldSet h_this_oldNumber h_this_allSets h_this_allNumbers h_this_root : Nat} {v_thrown v_wires v_isOpen v_isEmpty v_came v_there v_halves v_rules v_alone v_halfBits v_allMany o_isEmpty o_there o_halves o_rules x1 x2 : Int32} {v_number v_set v_ruleKind v_ruleBit v_ruleOther v_oldSet v_oldNumber v_constant o_number o_set o_ruleKind o_ruleBit o_ruleOther o_oldSet o_oldNumber o_constant : Nat → Int32} (C : zC p s m args meth c b_Md_doRule 6 R_Md D vwCl [(cI, .int), (cL, .long)] (zA [h_this, h_this_number, h_this_set, h_this_ruleKind, h_this_ruleBit, h_this_ruleOther, h_this_oldSet, h_this_oldNumber, h_this_constant] s.heap.size)) (hr : meth.sig.returnType = none) (hf : f_Md_doRule x1 x2 v_wires v_isOpen v_isEmpty v_there v_halves v_rules v_alone v_halfBits v_number v_set v_ruleKind v_ruleBit v_ruleOther v_oldSet v_oldNumber v_constant = some (o_isEmpty, o_there, o_halves, o_rules, o_number, o_set, o_ruleKind, o_ruleBit, o_ruleOther, o_oldSet, o_oldNumber, o_constant)) : ZV p l e rm_Md_doRule s m args below meth c 6 D (none) [(h_this, .inr (5, [.int v_thrown, .int v_wires, .int v_isOpen, .int o_isEmpty, .int v_came, .int o_there, .int o_halves, .ref h_this_number, .ref h_this_set, .ref h_this_constant, .int o_rules, .ref h_this_ruleKind, .ref h_this_ruleBit, .ref h_this_ruleOther, .int v_alone, .int v_halfBits, .ref h_this_oldSet, .ref h_this_oldNumber, .ref h_this_allSets, .ref h_this_allNumbers, .int v_allMany, .ref h_this_root])), (h_this_number, .inl (cI, 15625, .inl o_number)), (h_this_set, .inl (cI, 6, .inl o_set)), (h_this_ruleKind, .inl (cI, 24, .inl o_ruleKind)), (h_this_ruleBit, .inl (cI, 24, .inl o_ruleBit)), (h_this_ruleOther, .inl (cI, 24, .inl o_ruleOther)), (h_this_oldSet, .inl (cI, 300, .inl o_oldSet)), (h_this_oldNumber, .inl (cI, 300, .inl o_oldNumber)), (h_this_constant, .inl (cI, 6, .inl o_constant))] [h_this, h_this_number, h_this_set, h_this_ruleKind, h_this_ruleBit, h_this_ruleOther, h_this_oldSet, h_this_oldNumber, h_this_constant] [(h_this, .inr (5, [.int v_thrown, .int v_wires, .int v_isOpen, .int v_isEmpty, .int v_came, .int v_there, .int v_halves, .ref h_this_number, .ref h_this_set, .ref h_this_constant, .int v_rules, .ref h_this_ruleKind, .ref h_this_ruleBit, .ref h_this_ruleOther, .int v_alone, .int v_halfBits, .ref h_this_oldSet, .ref h_this_oldNumber, .ref h_this_allSets, .ref h_this_allNumbers, .int v_allMany, .ref h_this_root])), (h_this_number, .inl (cI, 15625, .inl v_number)), (h_this_set, .inl (cI, 6, .inl v_set)), (h_this_ruleKind, .inl (cI, 24, .inl v_ruleKind)), (h_this_ruleBit, .inl (cI, 24, .inl v_ruleBit)), (h_this_ruleOther, .inl (cI, 24, .inl v_ruleOther)), (h_this_oldSet, .inl (cI, 300, .inl v_oldSet)), (h_this_oldNumber, .inl (cI, 300, .inl v_oldNumber)), (h_this_constant, .inl (cI, 6, .inl v_constant))] 0 [(0, .ref h_this), (1, .int x1), (2, .int x2)] [] := by
  unfold f_Md_doRule at hf
  refine z_iconst (v := -1) C d_Md_doRule_0 (by decide) ?_
  refine z_istore_n (lv' := [(3, .int (-1 : Int32)), (0, .ref h_this), (1, .int x1), (2, .int x2)]) C d_Md_doRule_1 rfl (by decide) rfl ?_
  refine z_aload_n C d_Md_doRule_2 rfl 1 rfl ?_
  refine z_get C iw_Md 0 rfl rfl 15 (by decide) zw_513 rfl d_Md_doRule_3 ?_
  refine z_istore (lv' := [(4, .int v_halfBits), (3, .int (-1 : Int32)), (0, .ref h_this), (1, .int x1), (2, .int x2)]) C d_Md_doRule_6 (by decide) rfl ?_
  refine z_aload_n C d_Md_doRule_8 rfl 2 rfl ?_
  refine z_get C iw_Md 0 rfl rfl 14 (by decide) zw_512 rfl d_Md_doRule_9 ?_
  refine z_istore (lv' := [(5, .int v_alone), (4, .int v_halfBits), (3, .int (-1 : Int32)), (0, .ref h_this), (1, .int x1), (2, .int x2)]) C d_Md_doRule_12 (by decide) rfl ?_
  refine z_iload_n C d_Md_doRule_14 rfl 4 rfl ?_
  refine z_iconst (v := 2) C d_Md_doRule_15 (by decide) ?_
  refine z_icmp_ne (tgt := 26) C d_Md_doRule_16 (by decide) (fun c_1 => ?_) (fun c_1 => ?_)
  · have hf := zif_neg c_1 hf
    refine z_aload_n C d_Md_doRule_26 rfl 3 rfl ?_
    refine z_iload_n C d_Md_doRule_27 rfl 5 rfl ?_
    obtain ⟨q_9, q_10, h_8, hf⟩ := zb2_elim hf
    refine z_callV (As := [.int x2]) (rest := []) (ws' := [(h_this, .inr (5, [.int v_thrown, .int v_wires, .int v_isOpen, .int v_isEmpty, .int v_came, .int q_9, .int v_halves, .ref h_this_number, .ref h_this_set, .ref h_this_constant, .int v_rules, .ref h_this_ruleKind, .ref h_this_ruleBit, .ref h_this_ruleOther, .int v_alone, .int v_halfBits, .ref h_this_oldSet, .ref h_this_oldNumber, .ref h_this_allSets, .ref h_this_allNumbers, .int v_allMany, .ref h_this_root])), (h_this_number, .inl (cI, 15625, .inl q_10)), (h_this_set, .inl (cI, 6, .inl v_set)), (h_this_ruleKind, .inl (cI, 24, .inl v_ruleKind)), (h_this_ruleBit, .inl (cI, 24, .inl v_ruleBit)), (h_this_ruleOther, .inl (cI, 24, .inl v_ruleOther)), (h_this_oldSet, .inl (cI, 300, .inl v_oldSet)), (h_this_oldNumber, .inl (cI, 300, .inl v_oldNumber)), (h_this_constant, .inl (cI, 6, .inl v_constant))]) C (c_Md_dropBit h_8) mi_Md_dropBit zw_658 (by decide) 0 rfl rfl [0, 1] (by decide) rfl rfl rfl rfl rfl (by decide) ⟨Nat.zero_le _, Nat.zero_le _⟩ d_Md_doRule_28 ?_
    refine z_aload_n C d_Md_doRule_31 rfl 3 rfl ?_
    refine z_dup C d_Md_doRule_32 rfl ?_
    refine z_get C iw_Md 0 rfl rfl 6 (by decide) zw_504 rfl d_Md_doRule_33 ?_
    refine z_iload_n C d_Md_doRule_36 rfl 4 rfl ?_
    refine z_iconst (v := 4) C d_Md_doRule_37 (by decide) ?_
    refine z_icmp_ne (tgt := 45) C d_Md_doRule_38 (by decide) (fun c_11 => ?_) (fun c_11 => ?_)
    · have hf := zif_neg c_11 hf
      refine z_iconst (v := 2) C d_Md_doRule_45 (by decide) ?_
      refine z_lv [3, 4, 5, 2, 1, 0] rfl ?_
      exact k_Md_doRule_j46 C hr hf
    · have hf := zif_pos c_11 hf
      refine z_iconst (v := 1) C d_Md_doRule_41 (by decide) ?_
      refine z_goto (tgt := 46) C d_Md_doRule_42 (by decide) ?_
      refine z_lv [3, 4, 5, 2, 1, 0] rfl ?_
      exact k_Md_doRule_j46 C hr hf
  · have hf := zif_pos c_1 hf
    refine z_aload_n C d_Md_doRule_19 rfl 3 rfl ?_
    obtain ⟨q_3, q_4, q_5, q_6, q_7, h_2, hf⟩ := zb5_elim hf
    refine z_callV (As := []) (rest := []) (ws' := [(h_this, .inr (5, [.int v_thrown, .int v_wires, .int v_isOpen, .int q_3, .int v_came, .int q_4, .int q_5, .ref h_this_number, .ref h_this_set, .ref h_this_constant, .int v_rules, .ref h_this_ruleKind, .ref h_this_ruleBit, .ref h_this_ruleOther, .int v_alone, .int v_halfBits, .ref h_this_oldSet, .ref h_this_oldNumber, .ref h_this_allSets, .ref h_this_allNumbers, .int v_allMany, .ref h_this_root])), (h_this_number, .inl (cI, 15625, .inl q_6)), (h_this_set, .inl (cI, 6, .inl q_7)), (h_this_ruleKind, .inl (cI, 24, .inl v_ruleKind)), (h_this_ruleBit, .inl (cI, 24, .inl v_ruleBit)), (h_this_ruleOther, .inl (cI, 24, .inl v_ruleOther)), (h_this_oldSet, .inl (cI, 300, .inl v_oldSet)), (h_this_oldNumber, .inl (cI, 300, .inl v_oldNumber)), (h_this_constant, .inl (cI, 6, .inl v_constant))]) C (c_Md_empty h_2) mi_Md_empty zw_654 (by decide) 0 rfl rfl [0, 1, 2] (by decide) rfl rfl rfl rfl rfl (by decide) ⟨Nat.zero_le _, Nat.zero_le _⟩ d_Md_doRule_20 ?_
    refine z_goto (tgt := 50) C d_Md_doRule_23 (by decide) ?_
    refine z_lv [3, 4, 5, 2, 1, 0] rfl ?_
    exact k_Md_doRule_j50 C hr hf
theorem c_Md_doRule {l : Launch} {D : va_G} {cI cL : ClassId} {h_this h_this_number h_this_set h_this_constant h_this_ruleKind h_this_ruleBit h_this_ruleOther h_this_oldSet h_this_oldNumber h_this_allSets h_this_allNumbers h_this_root : Nat} {v_thrown v_wires v_isOpen v_isEmpty v_came v_there v_halves v_rules v_alone v_halfBits v_allMany o_isEmpty o_there o_halves o_rules x1 x2 : Int32} {v_number v_set v_ruleKind v_ruleBit v_ruleOther v_oldSet v_oldNumber v_constant o_number o_set o_ruleKind o_ruleBit o_ruleOther o_oldSet o_oldNumber o_constant : Nat → Int32} (hf : f_Md_doRule x1 x2 v_wires v_isOpen v_isEmpty v_there v_halves v_rules v_alone v_halfBits v_number v_set v_ruleKind v_ruleBit v_ruleOther v_oldSet v_oldNumber v_constant = some (o_isEmpty, o_there, o_halves, o_rules, o_number, o_set, o_ruleKind, o_ruleBit, o_ruleOther, o_oldSet, o_oldNumber, o_constant)) : zM l y_Md_doRule (Cond.code y_Md_doRule b_Md_doRule 6 none :: zT) rm_Md_doRule D vwCl [(cI, .int), (cL, .long)] [.ref h_this, .int x1, .int x2] [(h_this, .inr (5, [.int v_thrown, .int v_wires, .int v_isOpen, .int v_isEmpty, .int v_came, .int v_there, .int v_halves, .ref h_this_number, .ref h_this_set, .ref h_this_constant, .int v_rules, .ref h_this_ruleKind, .ref h_this_ruleBit, .ref h_this_ruleOther, .int v_alone, .int v_halfBits, .ref h_this_oldSet, .ref h_this_oldNumber, .ref h_this_allSets, .ref h_this_allNumbers, .int v_allMany, .ref h_this_root])), (h_this_number, .inl (cI, 15625, .inl v_number)), (h_this_set, .inl (cI, 6, .inl v_set)), (h_this_ruleKind, .inl (cI, 24, .inl v_ruleKind)), (h_this_ruleBit, .inl (cI, 24, .inl v_ruleBit)), (h_this_ruleOther, .inl (cI, 24, .inl v_ruleOther)), (h_this_oldSet, .inl (cI, 300, .inl v_oldSet)), (h_this_oldNumber, .inl (cI, 300, .inl v_oldNumber)), (h_this_constant, .inl (cI, 6, .inl v_constant))] [(h_this, .inr (5, [.int v_thrown, .int v_wires, .int v_isOpen, .int o_isEmpty, .int v_came, .int o_there, .int o_halves, .ref h_this_number, .ref h_this_set, .ref h_this_constant, .int o_rules, .ref h_this_ruleKind, .ref h_this_ruleBit, .ref h_this_ruleOther, .int v_alone, .int v_halfBits, .ref h_this_oldSet, .ref h_this_oldNumber, .ref h_this_allSets, .ref h_this_allNumbers, .int v_allMany, .ref h_this_root])), (h_this_number, .inl (cI, 15625, .inl o_number)), (h_this_set, .inl (cI, 6, .inl o_set)), (h_this_ruleKind, .inl (cI, 24, .inl o_ruleKind)), (h_this_ruleBit, .inl (cI, 24, .inl o_ruleBit)), (h_this_ruleOther, .inl (cI, 24, .inl o_ruleOther)), (h_this_oldSet, .inl (cI, 300, .inl o_oldSet)), (h_this_oldNumber, .inl (cI, 300, .inl o_oldNumber)), (h_this_constant, .inl (cI, 6, .inl o_constant))] (none) :=
  zM.intro (by decide) rfl (fun _ h => List.mem_cons_of_mem _ h) (Nat.le_of_ble_eq_true rfl) (fun _ _ _ _ _ _ _ C hr _ => k_Md_doRule C hr hf)
def rm_Md_reduce : Room := { frames := 5, cells := 0, slots := 0, locals := 128 }
def f_Md_reduce_l12 (x1 : Int32) (v_thrown : Int32) (v_wires : Int32) (v_isOpen : Int32) (x2 : Int32) (v_isEmpty : Int32) (v_there : Int32) (v_halves : Int32) (v_rules : Int32) (v_alone : Int32) (v_halfBits : Int32) (v_set : Nat → Int32) (v_number : Nat → Int32) (v_ruleKind : Nat → Int32) (v_ruleBit : Nat → Int32) (v_ruleOther : Nat → Int32) (v_oldSet : Nat → Int32) (v_oldNumber : Nat → Int32) (v_constant : Nat → Int32) : Option ((Int32 × Int32 × Int32 × Int32 × Int32 × Int32 × Int32 × (Nat → Int32) × (Nat → Int32) × (Nat → Int32) × (Nat → Int32) × (Nat → Int32) × (Nat → Int32) × (Nat → Int32) × (Nat → Int32)) ⊕ (Int32 × Int32 × Int32 × Int32 × Int32 × Int32 × (Nat → Int32) × (Nat → Int32) × (Nat → Int32) × (Nat → Int32) × (Nat → Int32) × (Nat → Int32) × (Nat → Int32) × (Nat → Int32))) :=
  if (24 : Int32) ≤ x2 then (
    some (.inr (v_isEmpty, v_there, v_halves, v_rules, v_alone, v_halfBits, v_set, v_number, v_ruleKind, v_ruleBit, v_ruleOther, v_oldSet, v_oldNumber, v_constant)))
  else (
    zb3 (f_Md_ruleFor x2 v_wires v_isOpen v_there v_alone v_halfBits v_set v_number) fun r_3 q_4 q_5 =>
    if r_3 ≤ 0 then (
      if r_3 ≤ 0 then (
        zlet (x2 + (1 : Int32)) fun y_8 =>
        some (.inl (y_8, v_isEmpty, v_there, v_halves, v_rules, q_4, q_5, v_set, v_number, v_ruleKind, v_ruleBit, v_ruleOther, v_oldSet, v_oldNumber, v_constant)))
      else (
        some (.inl ((0 : Int32), v_isEmpty, v_there, v_halves, v_rules, q_4, q_5, v_set, v_number, v_ruleKind, v_ruleBit, v_ruleOther, v_oldSet, v_oldNumber, v_constant))))
    else (
      zb12 (f_Md_doRule r_3 x2 v_wires v_isOpen v_isEmpty v_there v_halves v_rules q_4 q_5 v_number v_set v_ruleKind v_ruleBit v_ruleOther v_oldSet v_oldNumber v_constant) fun q_10 q_11 q_12 q_13 q_14 q_15 q_16 q_17 q_18 q_19 q_20 q_21 =>
      if r_3 ≤ 0 then (
        zlet (x2 + (1 : Int32)) fun y_23 =>
        some (.inl (y_23, q_10, q_11, q_12, q_13, q_4, q_5, q_15, q_14, q_16, q_17, q_18, q_19, q_20, q_21)))
      else (
        some (.inl ((0 : Int32), q_10, q_11, q_12, q_13, q_4, q_5, q_15, q_14, q_16, q_17, q_18, q_19, q_20, q_21)))))
set_option maxRecDepth 100000 in
set_option maxHeartbeats 4000000 in
theorem k_Md_reduce_l12 {p : Program} {l : Launch} {e : Env} {s : State} {m : MethodId} {args : Array Value} {below : List Frame} {meth : Method} {c : Code} {D : va_G} {cI cL : ClassId} {h_this h_this_number h_this_set h_this_constant h_this_ruleKind h_this_ruleBit h_this_ruleOther h_this_oldSet h_this_oldNumber h_this_allSets h_this_allNumbers h_this_root : Nat} {v_thrown v_wires v_isOpen v_isEmpty v_came v_there v_halves v_rules v_alone v_halfBits v_allMany rr o_thrown o_isEmpty o_there o_halves o_rules o_alone o_halfBits x1 x2 : Int32} {v_set v_number v_ruleKind v_ruleBit v_ruleOther v_oldSet v_oldNumber v_constant o_set o_number o_ruleKind o_ruleBit o_ruleOther o_oldSet o_oldNumber o_constant : Nat → Int32} (C : zC p s m args meth c b_Md_reduce 4 R_Md D vwCl [(cI, .int), (cL, .long)] (zA [h_this, h_this_set, h_this_number, h_this_ruleKind, h_this_ruleBit, h_this_ruleOther, h_this_oldSet, h_this_oldNumber, h_this_constant] s.heap.size)) (hr : meth.sig.returnType = some .int) {z : (Int32 × Int32 × Int32 × Int32 × Int32 × Int32 × Int32 × (Nat → Int32) × (Nat → Int32) × (Nat → Int32) × (Nat → Int32) × (Nat → Int32) × (Nat → Int32) × (Nat → Int32) × (Nat → Int32)) ⊕ (Int32 × Int32 × Int32 × Int32 × Int32 × Int32 × (Nat → Int32) × (Nat → Int32) × (Nat → Int32) × (Nat → Int32) × (Nat → Int32) × (Nat → Int32) × (Nat → Int32) × (Nat → Int32))} (hf : f_Md_reduce_l12 x1 v_thrown v_wires v_isOpen x2 v_isEmpty v_there v_halves v_rules v_alone v_halfBits v_set v_number v_ruleKind v_ruleBit v_ruleOther v_oldSet v_oldNumber v_constant = some z) (hK : zcase (fun q => ZV p l e rm_Md_reduce s m args below meth c 4 D (some (.int rr)) [(h_this, .inr (5, [.int o_thrown, .int v_wires, .int v_isOpen, .int o_isEmpty, .int v_came, .int o_there, .int o_halves, .ref h_this_number, .ref h_this_set, .ref h_this_constant, .int o_rules, .ref h_this_ruleKind, .ref h_this_ruleBit, .ref h_this_ruleOther, .int o_alone, .int o_halfBits, .ref h_this_oldSet, .ref h_this_oldNumber, .ref h_this_allSets, .ref h_this_allNumbers, .int v_allMany, .ref h_this_root])), (h_this_set, .inl (cI, 6, .inl o_set)), (h_this_number, .inl (cI, 15625, .inl o_number)), (h_this_ruleKind, .inl (cI, 24, .inl o_ruleKind)), (h_this_ruleBit, .inl (cI, 24, .inl o_ruleBit)), (h_this_ruleOther, .inl (cI, 24, .inl o_ruleOther)), (h_this_oldSet, .inl (cI, 300, .inl o_oldSet)), (h_this_oldNumber, .inl (cI, 300, .inl o_oldNumber)), (h_this_constant, .inl (cI, 6, .inl o_constant))] [h_this, h_this_set, h_this_number, h_this_ruleKind, h_this_ruleBit, h_this_ruleOther, h_this_oldSet, h_this_oldNumber, h_this_constant] [(h_this, .inr (5, [.int v_thrown, .int v_wires, .int v_isOpen, .int q.2.1, .int v_came, .int q.2.2.1, .int q.2.2.2.1, .ref h_this_number, .ref h_this_set, .ref h_this_constant, .int q.2.2.2.2.1, .ref h_this_ruleKind, .ref h_this_ruleBit, .ref h_this_ruleOther, .int q.2.2.2.2.2.1, .int q.2.2.2.2.2.2.1, .ref h_this_oldSet, .ref h_this_oldNumber, .ref h_this_allSets, .ref h_this_allNumbers, .int v_allMany, .ref h_this_root])), (h_this_set, .inl (cI, 6, .inl q.2.2.2.2.2.2.2.1)), (h_this_number, .inl (cI, 15625, .inl q.2.2.2.2.2.2.2.2.1)), (h_this_ruleKind, .inl (cI, 24, .inl q.2.2.2.2.2.2.2.2.2.1)), (h_this_ruleBit, .inl (cI, 24, .inl q.2.2.2.2.2.2.2.2.2.2.1)), (h_this_ruleOther, .inl (cI, 24, .inl q.2.2.2.2.2.2.2.2.2.2.2.1)), (h_this_oldSet, .inl (cI, 300, .inl q.2.2.2.2.2.2.2.2.2.2.2.2.1)), (h_this_oldNumber, .inl (cI, 300, .inl q.2.2.2.2.2.2.2.2.2.2.2.2.2.1)), (h_this_constant, .inl (cI, 6, .inl q.2.2.2.2.2.2.2.2.2.2.2.2.2.2))] 12 [(0, .ref h_this), (1, .int x1), (2, .int q.1)] []) (fun q => ZV p l e rm_Md_reduce s m args below meth c 4 D (some (.int rr)) [(h_this, .inr (5, [.int o_thrown, .int v_wires, .int v_isOpen, .int o_isEmpty, .int v_came, .int o_there, .int o_halves, .ref h_this_number, .ref h_this_set, .ref h_this_constant, .int o_rules, .ref h_this_ruleKind, .ref h_this_ruleBit, .ref h_this_ruleOther, .int o_alone, .int o_halfBits, .ref h_this_oldSet, .ref h_this_oldNumber, .ref h_this_allSets, .ref h_this_allNumbers, .int v_allMany, .ref h_this_root])), (h_this_set, .inl (cI, 6, .inl o_set)), (h_this_number, .inl (cI, 15625, .inl o_number)), (h_this_ruleKind, .inl (cI, 24, .inl o_ruleKind)), (h_this_ruleBit, .inl (cI, 24, .inl o_ruleBit)), (h_this_ruleOther, .inl (cI, 24, .inl o_ruleOther)), (h_this_oldSet, .inl (cI, 300, .inl o_oldSet)), (h_this_oldNumber, .inl (cI, 300, .inl o_oldNumber)), (h_this_constant, .inl (cI, 6, .inl o_constant))] [h_this, h_this_set, h_this_number, h_this_ruleKind, h_this_ruleBit, h_this_ruleOther, h_this_oldSet, h_this_oldNumber, h_this_constant] [(h_this, .inr (5, [.int v_thrown, .int v_wires, .int v_isOpen, .int q.1, .int v_came, .int q.2.1, .int q.2.2.1, .ref h_this_number, .ref h_this_set, .ref h_this_constant, .int q.2.2.2.1, .ref h_this_ruleKind, .ref h_this_ruleBit, .ref h_this_ruleOther, .int q.2.2.2.2.1, .int q.2.2.2.2.2.1, .ref h_this_oldSet, .ref h_this_oldNumber, .ref h_this_allSets, .ref h_this_allNumbers, .int v_allMany, .ref h_this_root])), (h_this_set, .inl (cI, 6, .inl q.2.2.2.2.2.2.1)), (h_this_number, .inl (cI, 15625, .inl q.2.2.2.2.2.2.2.1)), (h_this_ruleKind, .inl (cI, 24, .inl q.2.2.2.2.2.2.2.2.1)), (h_this_ruleBit, .inl (cI, 24, .inl q.2.2.2.2.2.2.2.2.2.1)), (h_this_ruleOther, .inl (cI, 24, .inl q.2.2.2.2.2.2.2.2.2.2.1)), (h_this_oldSet, .inl (cI, 300, .inl q.2.2.2.2.2.2.2.2.2.2.2.1)), (h_this_oldNumber, .inl (cI, 300, .inl q.2.2.2.2.2.2.2.2.2.2.2.2.1)), (h_this_constant, .inl (cI, 6, .inl q.2.2.2.2.2.2.2.2.2.2.2.2.2))] 49 [(0, .ref h_this), (1, .int x1)] []) z) : ZV p l e rm_Md_reduce s m args below meth c 4 D (some (.int rr)) [(h_this, .inr (5, [.int o_thrown, .int v_wires, .int v_isOpen, .int o_isEmpty, .int v_came, .int o_there, .int o_halves, .ref h_this_number, .ref h_this_set, .ref h_this_constant, .int o_rules, .ref h_this_ruleKind, .ref h_this_ruleBit, .ref h_this_ruleOther, .int o_alone, .int o_halfBits, .ref h_this_oldSet, .ref h_this_oldNumber, .ref h_this_allSets, .ref h_this_allNumbers, .int v_allMany, .ref h_this_root])), (h_this_set, .inl (cI, 6, .inl o_set)), (h_this_number, .inl (cI, 15625, .inl o_number)), (h_this_ruleKind, .inl (cI, 24, .inl o_ruleKind)), (h_this_ruleBit, .inl (cI, 24, .inl o_ruleBit)), (h_this_ruleOther, .inl (cI, 24, .inl o_ruleOther)), (h_this_oldSet, .inl (cI, 300, .inl o_oldSet)), (h_this_oldNumber, .inl (cI, 300, .inl o_oldNumber)), (h_this_constant, .inl (cI, 6, .inl o_constant))] [h_this, h_this_set, h_this_number, h_this_ruleKind, h_this_ruleBit, h_this_ruleOther, h_this_oldSet, h_this_oldNumber, h_this_constant] [(h_this, .inr (5, [.int v_thrown, .int v_wires, .int v_isOpen, .int v_isEmpty, .int v_came, .int v_there, .int v_halves, .ref h_this_number, .ref h_this_set, .ref h_this_constant, .int v_rules, .ref h_this_ruleKind, .ref h_this_ruleBit, .ref h_this_ruleOther, .int v_alone, .int v_halfBits, .ref h_this_oldSet, .ref h_this_oldNumber, .ref h_this_allSets, .ref h_this_allNumbers, .int v_allMany, .ref h_this_root])), (h_this_set, .inl (cI, 6, .inl v_set)), (h_this_number, .inl (cI, 15625, .inl v_number)), (h_this_ruleKind, .inl (cI, 24, .inl v_ruleKind)), (h_this_ruleBit, .inl (cI, 24, .inl v_ruleBit)), (h_this_ruleOther, .inl (cI, 24, .inl v_ruleOther)), (h_this_oldSet, .inl (cI, 300, .inl v_oldSet)), (h_this_oldNumber, .inl (cI, 300, .inl v_oldNumber)), (h_this_constant, .inl (cI, 6, .inl v_constant))] 12 [(0, .ref h_this), (1, .int x1), (2, .int x2)] [] := by
  unfold f_Md_reduce_l12 at hf
  refine z_iload_n C d_Md_reduce_12 rfl 2 rfl ?_
  refine z_bipush (v := 24) C d_Md_reduce_13 (by decide) ?_
  refine z_icmp_ge (tgt := 49) C d_Md_reduce_15 (by decide) (fun c_1 => ?_) (fun c_1 => ?_)
  · have hf := zif_pos c_1 hf
    refine z_lv [0, 1] rfl ?_
    cases hf
    exact hK
  · have hf := zif_neg c_1 hf
    refine z_aload_n C d_Md_reduce_18 rfl 0 rfl ?_
    refine z_iload_n C d_Md_reduce_19 rfl 2 rfl ?_
    obtain ⟨r_3, q_4, q_5, h_2, hf⟩ := zb3_elim hf
    refine z_callV (As := [.int x2]) (rest := []) (ws' := [(h_this, .inr (5, [.int v_thrown, .int v_wires, .int v_isOpen, .int v_isEmpty, .int v_came, .int v_there, .int v_halves, .ref h_this_number, .ref h_this_set, .ref h_this_constant, .int v_rules, .ref h_this_ruleKind, .ref h_this_ruleBit, .ref h_this_ruleOther, .int q_4, .int q_5, .ref h_this_oldSet, .ref h_this_oldNumber, .ref h_this_allSets, .ref h_this_allNumbers, .int v_allMany, .ref h_this_root])), (h_this_set, .inl (cI, 6, .inl v_set)), (h_this_number, .inl (cI, 15625, .inl v_number)), (h_this_ruleKind, .inl (cI, 24, .inl v_ruleKind)), (h_this_ruleBit, .inl (cI, 24, .inl v_ruleBit)), (h_this_ruleOther, .inl (cI, 24, .inl v_ruleOther)), (h_this_oldSet, .inl (cI, 300, .inl v_oldSet)), (h_this_oldNumber, .inl (cI, 300, .inl v_oldNumber)), (h_this_constant, .inl (cI, 6, .inl v_constant))]) C (c_Md_ruleFor h_2) mi_Md_ruleFor zw_630 (by decide) 0 rfl rfl [0, 1, 2] (by decide) rfl rfl rfl rfl rfl (by decide) ⟨Nat.zero_le _, Nat.zero_le _⟩ d_Md_reduce_20 ?_
    refine z_istore_n (lv' := [(3, .int r_3), (0, .ref h_this), (1, .int x1), (2, .int x2)]) C d_Md_reduce_23 rfl (by decide) rfl ?_
    refine z_iload_n C d_Md_reduce_24 rfl 0 rfl ?_
    refine z_if_le (tgt := 34) C d_Md_reduce_25 (by decide) (fun c_6 => ?_) (fun c_6 => ?_)
    · have hf := zif_pos c_6 hf
      refine z_iload_n C d_Md_reduce_34 rfl 0 rfl ?_
      refine z_if_le (tgt := 42) C d_Md_reduce_35 (by decide) (fun c_7 => ?_) (fun c_7 => ?_)
      · have hf := zif_pos c_7 hf
        refine z_iload_n C d_Md_reduce_42 rfl 3 rfl ?_
        refine z_iconst (v := 1) C d_Md_reduce_43 (by decide) ?_
        refine z_iadd C d_Md_reduce_44 ?_
        refine z_topi (fun y_8 ey_8 => ?_)
        have hf := zlet_at ey_8 hf
        refine z_istore_n (lv' := [(2, .int y_8), (3, .int r_3), (0, .ref h_this), (1, .int x1)]) C d_Md_reduce_45 rfl (by decide) rfl ?_
        refine z_goto (tgt := 12) C d_Md_reduce_46 (by decide) ?_
        refine z_lv [2, 3, 0] rfl ?_
        cases hf
        exact hK
      · have hf := zif_neg c_7 hf
        refine z_iconst (v := 0) C d_Md_reduce_38 (by decide) ?_
        refine z_goto (tgt := 45) C d_Md_reduce_39 (by decide) ?_
        refine z_istore_n (lv' := [(2, .int (0 : Int32)), (3, .int r_3), (0, .ref h_this), (1, .int x1)]) C d_Md_reduce_45 rfl (by decide) rfl ?_
        refine z_goto (tgt := 12) C d_Md_reduce_46 (by decide) ?_
        refine z_lv [2, 3, 0] rfl ?_
        cases hf
        exact hK
    · have hf := zif_neg c_6 hf
      refine z_aload_n C d_Md_reduce_28 rfl 1 rfl ?_
      refine z_iload_n C d_Md_reduce_29 rfl 0 rfl ?_
      refine z_iload_n C d_Md_reduce_30 rfl 3 rfl ?_
      obtain ⟨q_10, q_11, q_12, q_13, q_14, q_15, q_16, q_17, q_18, q_19, q_20, q_21, h_9, hf⟩ := zb12_elim hf
      refine z_callV (As := [.int r_3, .int x2]) (rest := []) (ws' := [(h_this, .inr (5, [.int v_thrown, .int v_wires, .int v_isOpen, .int q_10, .int v_came, .int q_11, .int q_12, .ref h_this_number, .ref h_this_set, .ref h_this_constant, .int q_13, .ref h_this_ruleKind, .ref h_this_ruleBit, .ref h_this_ruleOther, .int q_4, .int q_5, .ref h_this_oldSet, .ref h_this_oldNumber, .ref h_this_allSets, .ref h_this_allNumbers, .int v_allMany, .ref h_this_root])), (h_this_set, .inl (cI, 6, .inl q_15)), (h_this_number, .inl (cI, 15625, .inl q_14)), (h_this_ruleKind, .inl (cI, 24, .inl q_16)), (h_this_ruleBit, .inl (cI, 24, .inl q_17)), (h_this_ruleOther, .inl (cI, 24, .inl q_18)), (h_this_oldSet, .inl (cI, 300, .inl q_19)), (h_this_oldNumber, .inl (cI, 300, .inl q_20)), (h_this_constant, .inl (cI, 6, .inl q_21))]) C (c_Md_doRule h_9) mi_Md_doRule zw_650 (by decide) 0 rfl rfl [0, 2, 1, 3, 4, 5, 6, 7, 8] (by decide) rfl rfl rfl rfl rfl (by decide) ⟨Nat.zero_le _, Nat.zero_le _⟩ d_Md_reduce_31 ?_
      refine z_iload_n C d_Md_reduce_34 rfl 0 rfl ?_
      refine z_if_le (tgt := 42) C d_Md_reduce_35 (by decide) (fun c_22 => ?_) (fun c_22 => ?_)
      · have hf := zif_pos c_22 hf
        refine z_iload_n C d_Md_reduce_42 rfl 3 rfl ?_
        refine z_iconst (v := 1) C d_Md_reduce_43 (by decide) ?_
        refine z_iadd C d_Md_reduce_44 ?_
        refine z_topi (fun y_23 ey_23 => ?_)
        have hf := zlet_at ey_23 hf
        refine z_istore_n (lv' := [(2, .int y_23), (3, .int r_3), (0, .ref h_this), (1, .int x1)]) C d_Md_reduce_45 rfl (by decide) rfl ?_
        refine z_goto (tgt := 12) C d_Md_reduce_46 (by decide) ?_
        refine z_lv [2, 3, 0] rfl ?_
        cases hf
        exact hK
      · have hf := zif_neg c_22 hf
        refine z_iconst (v := 0) C d_Md_reduce_38 (by decide) ?_
        refine z_goto (tgt := 45) C d_Md_reduce_39 (by decide) ?_
        refine z_istore_n (lv' := [(2, .int (0 : Int32)), (3, .int r_3), (0, .ref h_this), (1, .int x1)]) C d_Md_reduce_45 rfl (by decide) rfl ?_
        refine z_goto (tgt := 12) C d_Md_reduce_46 (by decide) ?_
        refine z_lv [2, 3, 0] rfl ?_
        cases hf
        exact hK
theorem k_Md_reduce_l12_run {p : Program} {l : Launch} {e : Env} {s : State} {m : MethodId} {args : Array Value} {below : List Frame} {meth : Method} {c : Code} {D : va_G} {cI cL : ClassId} {h_this h_this_number h_this_set h_this_constant h_this_ruleKind h_this_ruleBit h_this_ruleOther h_this_oldSet h_this_oldNumber h_this_allSets h_this_allNumbers h_this_root : Nat} {v_thrown v_wires v_isOpen v_isEmpty v_came v_there v_halves v_rules v_alone v_halfBits v_allMany rr o_thrown o_isEmpty o_there o_halves o_rules o_alone o_halfBits x1 x2 : Int32} {v_set v_number v_ruleKind v_ruleBit v_ruleOther v_oldSet v_oldNumber v_constant o_set o_number o_ruleKind o_ruleBit o_ruleOther o_oldSet o_oldNumber o_constant : Nat → Int32} (C : zC p s m args meth c b_Md_reduce 4 R_Md D vwCl [(cI, .int), (cL, .long)] (zA [h_this, h_this_set, h_this_number, h_this_ruleKind, h_this_ruleBit, h_this_ruleOther, h_this_oldSet, h_this_oldNumber, h_this_constant] s.heap.size)) (hr : meth.sig.returnType = some .int) {o0 : Int32} {o1 : Int32} {o2 : Int32} {o3 : Int32} {o4 : Int32} {o5 : Int32} {o6 : Nat → Int32} {o7 : Nat → Int32} {o8 : Nat → Int32} {o9 : Nat → Int32} {o10 : Nat → Int32} {o11 : Nat → Int32} {o12 : Nat → Int32} {o13 : Nat → Int32} (hf : zloop (fun q => f_Md_reduce_l12 x1 v_thrown v_wires v_isOpen q.1 q.2.1 q.2.2.1 q.2.2.2.1 q.2.2.2.2.1 q.2.2.2.2.2.1 q.2.2.2.2.2.2.1 q.2.2.2.2.2.2.2.1 q.2.2.2.2.2.2.2.2.1 q.2.2.2.2.2.2.2.2.2.1 q.2.2.2.2.2.2.2.2.2.2.1 q.2.2.2.2.2.2.2.2.2.2.2.1 q.2.2.2.2.2.2.2.2.2.2.2.2.1 q.2.2.2.2.2.2.2.2.2.2.2.2.2.1 q.2.2.2.2.2.2.2.2.2.2.2.2.2.2) zF (x2, v_isEmpty, v_there, v_halves, v_rules, v_alone, v_halfBits, v_set, v_number, v_ruleKind, v_ruleBit, v_ruleOther, v_oldSet, v_oldNumber, v_constant) = some (o0, o1, o2, o3, o4, o5, o6, o7, o8, o9, o10, o11, o12, o13)) (hK : ZV p l e rm_Md_reduce s m args below meth c 4 D (some (.int rr)) [(h_this, .inr (5, [.int o_thrown, .int v_wires, .int v_isOpen, .int o_isEmpty, .int v_came, .int o_there, .int o_halves, .ref h_this_number, .ref h_this_set, .ref h_this_constant, .int o_rules, .ref h_this_ruleKind, .ref h_this_ruleBit, .ref h_this_ruleOther, .int o_alone, .int o_halfBits, .ref h_this_oldSet, .ref h_this_oldNumber, .ref h_this_allSets, .ref h_this_allNumbers, .int v_allMany, .ref h_this_root])), (h_this_set, .inl (cI, 6, .inl o_set)), (h_this_number, .inl (cI, 15625, .inl o_number)), (h_this_ruleKind, .inl (cI, 24, .inl o_ruleKind)), (h_this_ruleBit, .inl (cI, 24, .inl o_ruleBit)), (h_this_ruleOther, .inl (cI, 24, .inl o_ruleOther)), (h_this_oldSet, .inl (cI, 300, .inl o_oldSet)), (h_this_oldNumber, .inl (cI, 300, .inl o_oldNumber)), (h_this_constant, .inl (cI, 6, .inl o_constant))] [h_this, h_this_set, h_this_number, h_this_ruleKind, h_this_ruleBit, h_this_ruleOther, h_this_oldSet, h_this_oldNumber, h_this_constant] [(h_this, .inr (5, [.int v_thrown, .int v_wires, .int v_isOpen, .int o0, .int v_came, .int o1, .int o2, .ref h_this_number, .ref h_this_set, .ref h_this_constant, .int o3, .ref h_this_ruleKind, .ref h_this_ruleBit, .ref h_this_ruleOther, .int o4, .int o5, .ref h_this_oldSet, .ref h_this_oldNumber, .ref h_this_allSets, .ref h_this_allNumbers, .int v_allMany, .ref h_this_root])), (h_this_set, .inl (cI, 6, .inl o6)), (h_this_number, .inl (cI, 15625, .inl o7)), (h_this_ruleKind, .inl (cI, 24, .inl o8)), (h_this_ruleBit, .inl (cI, 24, .inl o9)), (h_this_ruleOther, .inl (cI, 24, .inl o10)), (h_this_oldSet, .inl (cI, 300, .inl o11)), (h_this_oldNumber, .inl (cI, 300, .inl o12)), (h_this_constant, .inl (cI, 6, .inl o13))] 49 [(0, .ref h_this), (1, .int x1)] []) : ZV p l e rm_Md_reduce s m args below meth c 4 D (some (.int rr)) [(h_this, .inr (5, [.int o_thrown, .int v_wires, .int v_isOpen, .int o_isEmpty, .int v_came, .int o_there, .int o_halves, .ref h_this_number, .ref h_this_set, .ref h_this_constant, .int o_rules, .ref h_this_ruleKind, .ref h_this_ruleBit, .ref h_this_ruleOther, .int o_alone, .int o_halfBits, .ref h_this_oldSet, .ref h_this_oldNumber, .ref h_this_allSets, .ref h_this_allNumbers, .int v_allMany, .ref h_this_root])), (h_this_set, .inl (cI, 6, .inl o_set)), (h_this_number, .inl (cI, 15625, .inl o_number)), (h_this_ruleKind, .inl (cI, 24, .inl o_ruleKind)), (h_this_ruleBit, .inl (cI, 24, .inl o_ruleBit)), (h_this_ruleOther, .inl (cI, 24, .inl o_ruleOther)), (h_this_oldSet, .inl (cI, 300, .inl o_oldSet)), (h_this_oldNumber, .inl (cI, 300, .inl o_oldNumber)), (h_this_constant, .inl (cI, 6, .inl o_constant))] [h_this, h_this_set, h_this_number, h_this_ruleKind, h_this_ruleBit, h_this_ruleOther, h_this_oldSet, h_this_oldNumber, h_this_constant] [(h_this, .inr (5, [.int v_thrown, .int v_wires, .int v_isOpen, .int v_isEmpty, .int v_came, .int v_there, .int v_halves, .ref h_this_number, .ref h_this_set, .ref h_this_constant, .int v_rules, .ref h_this_ruleKind, .ref h_this_ruleBit, .ref h_this_ruleOther, .int v_alone, .int v_halfBits, .ref h_this_oldSet, .ref h_this_oldNumber, .ref h_this_allSets, .ref h_this_allNumbers, .int v_allMany, .ref h_this_root])), (h_this_set, .inl (cI, 6, .inl v_set)), (h_this_number, .inl (cI, 15625, .inl v_number)), (h_this_ruleKind, .inl (cI, 24, .inl v_ruleKind)), (h_this_ruleBit, .inl (cI, 24, .inl v_ruleBit)), (h_this_ruleOther, .inl (cI, 24, .inl v_ruleOther)), (h_this_oldSet, .inl (cI, 300, .inl v_oldSet)), (h_this_oldNumber, .inl (cI, 300, .inl v_oldNumber)), (h_this_constant, .inl (cI, 6, .inl v_constant))] 12 [(0, .ref h_this), (1, .int x1), (2, .int x2)] [] :=
  zloop_run (P := fun q => ZV p l e rm_Md_reduce s m args below meth c 4 D (some (.int rr)) [(h_this, .inr (5, [.int o_thrown, .int v_wires, .int v_isOpen, .int o_isEmpty, .int v_came, .int o_there, .int o_halves, .ref h_this_number, .ref h_this_set, .ref h_this_constant, .int o_rules, .ref h_this_ruleKind, .ref h_this_ruleBit, .ref h_this_ruleOther, .int o_alone, .int o_halfBits, .ref h_this_oldSet, .ref h_this_oldNumber, .ref h_this_allSets, .ref h_this_allNumbers, .int v_allMany, .ref h_this_root])), (h_this_set, .inl (cI, 6, .inl o_set)), (h_this_number, .inl (cI, 15625, .inl o_number)), (h_this_ruleKind, .inl (cI, 24, .inl o_ruleKind)), (h_this_ruleBit, .inl (cI, 24, .inl o_ruleBit)), (h_this_ruleOther, .inl (cI, 24, .inl o_ruleOther)), (h_this_oldSet, .inl (cI, 300, .inl o_oldSet)), (h_this_oldNumber, .inl (cI, 300, .inl o_oldNumber)), (h_this_constant, .inl (cI, 6, .inl o_constant))] [h_this, h_this_set, h_this_number, h_this_ruleKind, h_this_ruleBit, h_this_ruleOther, h_this_oldSet, h_this_oldNumber, h_this_constant] [(h_this, .inr (5, [.int v_thrown, .int v_wires, .int v_isOpen, .int q.2.1, .int v_came, .int q.2.2.1, .int q.2.2.2.1, .ref h_this_number, .ref h_this_set, .ref h_this_constant, .int q.2.2.2.2.1, .ref h_this_ruleKind, .ref h_this_ruleBit, .ref h_this_ruleOther, .int q.2.2.2.2.2.1, .int q.2.2.2.2.2.2.1, .ref h_this_oldSet, .ref h_this_oldNumber, .ref h_this_allSets, .ref h_this_allNumbers, .int v_allMany, .ref h_this_root])), (h_this_set, .inl (cI, 6, .inl q.2.2.2.2.2.2.2.1)), (h_this_number, .inl (cI, 15625, .inl q.2.2.2.2.2.2.2.2.1)), (h_this_ruleKind, .inl (cI, 24, .inl q.2.2.2.2.2.2.2.2.2.1)), (h_this_ruleBit, .inl (cI, 24, .inl q.2.2.2.2.2.2.2.2.2.2.1)), (h_this_ruleOther, .inl (cI, 24, .inl q.2.2.2.2.2.2.2.2.2.2.2.1)), (h_this_oldSet, .inl (cI, 300, .inl q.2.2.2.2.2.2.2.2.2.2.2.2.1)), (h_this_oldNumber, .inl (cI, 300, .inl q.2.2.2.2.2.2.2.2.2.2.2.2.2.1)), (h_this_constant, .inl (cI, 6, .inl q.2.2.2.2.2.2.2.2.2.2.2.2.2.2))] 12 [(0, .ref h_this), (1, .int x1), (2, .int q.1)] []) (K := (fun q => ZV p l e rm_Md_reduce s m args below meth c 4 D (some (.int rr)) [(h_this, .inr (5, [.int o_thrown, .int v_wires, .int v_isOpen, .int o_isEmpty, .int v_came, .int o_there, .int o_halves, .ref h_this_number, .ref h_this_set, .ref h_this_constant, .int o_rules, .ref h_this_ruleKind, .ref h_this_ruleBit, .ref h_this_ruleOther, .int o_alone, .int o_halfBits, .ref h_this_oldSet, .ref h_this_oldNumber, .ref h_this_allSets, .ref h_this_allNumbers, .int v_allMany, .ref h_this_root])), (h_this_set, .inl (cI, 6, .inl o_set)), (h_this_number, .inl (cI, 15625, .inl o_number)), (h_this_ruleKind, .inl (cI, 24, .inl o_ruleKind)), (h_this_ruleBit, .inl (cI, 24, .inl o_ruleBit)), (h_this_ruleOther, .inl (cI, 24, .inl o_ruleOther)), (h_this_oldSet, .inl (cI, 300, .inl o_oldSet)), (h_this_oldNumber, .inl (cI, 300, .inl o_oldNumber)), (h_this_constant, .inl (cI, 6, .inl o_constant))] [h_this, h_this_set, h_this_number, h_this_ruleKind, h_this_ruleBit, h_this_ruleOther, h_this_oldSet, h_this_oldNumber, h_this_constant] [(h_this, .inr (5, [.int v_thrown, .int v_wires, .int v_isOpen, .int q.1, .int v_came, .int q.2.1, .int q.2.2.1, .ref h_this_number, .ref h_this_set, .ref h_this_constant, .int q.2.2.2.1, .ref h_this_ruleKind, .ref h_this_ruleBit, .ref h_this_ruleOther, .int q.2.2.2.2.1, .int q.2.2.2.2.2.1, .ref h_this_oldSet, .ref h_this_oldNumber, .ref h_this_allSets, .ref h_this_allNumbers, .int v_allMany, .ref h_this_root])), (h_this_set, .inl (cI, 6, .inl q.2.2.2.2.2.2.1)), (h_this_number, .inl (cI, 15625, .inl q.2.2.2.2.2.2.2.1)), (h_this_ruleKind, .inl (cI, 24, .inl q.2.2.2.2.2.2.2.2.1)), (h_this_ruleBit, .inl (cI, 24, .inl q.2.2.2.2.2.2.2.2.2.1)), (h_this_ruleOther, .inl (cI, 24, .inl q.2.2.2.2.2.2.2.2.2.2.1)), (h_this_oldSet, .inl (cI, 300, .inl q.2.2.2.2.2.2.2.2.2.2.2.1)), (h_this_oldNumber, .inl (cI, 300, .inl q.2.2.2.2.2.2.2.2.2.2.2.2.1)), (h_this_constant, .inl (cI, 6, .inl q.2.2.2.2.2.2.2.2.2.2.2.2.2))] 49 [(0, .ref h_this), (1, .int x1)] [])) (fun q z hz hK => k_Md_reduce_l12 C hr hz hK) zF _ ((o0, o1, o2, o3, o4, o5, o6, o7, o8, o9, o10, o11, o12, o13)) hf hK
/-- PathSumsModel.reduce()I -/
def f_Md_reduce (v_thrown : Int32) (v_wires : Int32) (v_isOpen : Int32) (v_isEmpty : Int32) (v_there : Int32) (v_halves : Int32) (v_rules : Int32) (v_alone : Int32) (v_halfBits : Int32) (v_set : Nat → Int32) (v_number : Nat → Int32) (v_ruleKind : Nat → Int32) (v_ruleBit : Nat → Int32) (v_ruleOther : Nat → Int32) (v_oldSet : Nat → Int32) (v_oldNumber : Nat → Int32) (v_constant : Nat → Int32) : Option (Int32 × Int32 × Int32 × Int32 × Int32 × Int32 × Int32 × Int32 × (Nat → Int32) × (Nat → Int32) × (Nat → Int32) × (Nat → Int32) × (Nat → Int32) × (Nat → Int32) × (Nat → Int32) × (Nat → Int32)) :=
  zb14 (zloop (fun q => f_Md_reduce_l12 v_rules (0 : Int32) v_wires v_isOpen q.1 q.2.1 q.2.2.1 q.2.2.2.1 q.2.2.2.2.1 q.2.2.2.2.2.1 q.2.2.2.2.2.2.1 q.2.2.2.2.2.2.2.1 q.2.2.2.2.2.2.2.2.1 q.2.2.2.2.2.2.2.2.2.1 q.2.2.2.2.2.2.2.2.2.2.1 q.2.2.2.2.2.2.2.2.2.2.2.1 q.2.2.2.2.2.2.2.2.2.2.2.2.1 q.2.2.2.2.2.2.2.2.2.2.2.2.2.1 q.2.2.2.2.2.2.2.2.2.2.2.2.2.2) zF ((0 : Int32), v_isEmpty, v_there, v_halves, v_rules, v_alone, v_halfBits, v_set, v_number, v_ruleKind, v_ruleBit, v_ruleOther, v_oldSet, v_oldNumber, v_constant)) fun q_1 q_2 q_3 q_4 q_5 q_6 q_7 q_8 q_9 q_10 q_11 q_12 q_13 q_14 =>
  some (q_4 - v_rules, (0 : Int32), q_1, q_2, q_3, q_4, q_5, q_6, q_7, q_8, q_9, q_10, q_11, q_12, q_13, q_14)
set_option maxRecDepth 100000 in
set_option maxHeartbeats 4000000 in
theorem k_Md_reduce {p : Program} {l : Launch} {e : Env} {s : State} {m : MethodId} {args : Array Value} {below : List Frame} {meth : Method} {c : Code} {D : va_G} {cI cL : ClassId} {h_this h_this_number h_this_set h_this_constant h_this_ruleKind h_this_ruleBit h_this_ruleOther h_this_oldSet h_this_oldNumber h_this_allSets h_this_allNumbers h_this_root : Nat} {v_thrown v_wires v_isOpen v_isEmpty v_came v_there v_halves v_rules v_alone v_halfBits v_allMany rr o_thrown o_isEmpty o_there o_halves o_rules o_alone o_halfBits : Int32} {v_set v_number v_ruleKind v_ruleBit v_ruleOther v_oldSet v_oldNumber v_constant o_set o_number o_ruleKind o_ruleBit o_ruleOther o_oldSet o_oldNumber o_constant : Nat → Int32} (C : zC p s m args meth c b_Md_reduce 4 R_Md D vwCl [(cI, .int), (cL, .long)] (zA [h_this, h_this_set, h_this_number, h_this_ruleKind, h_this_ruleBit, h_this_ruleOther, h_this_oldSet, h_this_oldNumber, h_this_constant] s.heap.size)) (hr : meth.sig.returnType = some .int) (hf : f_Md_reduce v_thrown v_wires v_isOpen v_isEmpty v_there v_halves v_rules v_alone v_halfBits v_set v_number v_ruleKind v_ruleBit v_ruleOther v_oldSet v_oldNumber v_constant = some (rr, o_thrown, o_isEmpty, o_there, o_halves, o_rules, o_alone, o_halfBits, o_set, o_number, o_ruleKind, o_ruleBit, o_ruleOther, o_oldSet, o_oldNumber, o_constant)) : ZV p l e rm_Md_reduce s m args below meth c 4 D (some (.int rr)) [(h_this, .inr (5, [.int o_thrown, .int v_wires, .int v_isOpen, .int o_isEmpty, .int v_came, .int o_there, .int o_halves, .ref h_this_number, .ref h_this_set, .ref h_this_constant, .int o_rules, .ref h_this_ruleKind, .ref h_this_ruleBit, .ref h_this_ruleOther, .int o_alone, .int o_halfBits, .ref h_this_oldSet, .ref h_this_oldNumber, .ref h_this_allSets, .ref h_this_allNumbers, .int v_allMany, .ref h_this_root])), (h_this_set, .inl (cI, 6, .inl o_set)), (h_this_number, .inl (cI, 15625, .inl o_number)), (h_this_ruleKind, .inl (cI, 24, .inl o_ruleKind)), (h_this_ruleBit, .inl (cI, 24, .inl o_ruleBit)), (h_this_ruleOther, .inl (cI, 24, .inl o_ruleOther)), (h_this_oldSet, .inl (cI, 300, .inl o_oldSet)), (h_this_oldNumber, .inl (cI, 300, .inl o_oldNumber)), (h_this_constant, .inl (cI, 6, .inl o_constant))] [h_this, h_this_set, h_this_number, h_this_ruleKind, h_this_ruleBit, h_this_ruleOther, h_this_oldSet, h_this_oldNumber, h_this_constant] [(h_this, .inr (5, [.int v_thrown, .int v_wires, .int v_isOpen, .int v_isEmpty, .int v_came, .int v_there, .int v_halves, .ref h_this_number, .ref h_this_set, .ref h_this_constant, .int v_rules, .ref h_this_ruleKind, .ref h_this_ruleBit, .ref h_this_ruleOther, .int v_alone, .int v_halfBits, .ref h_this_oldSet, .ref h_this_oldNumber, .ref h_this_allSets, .ref h_this_allNumbers, .int v_allMany, .ref h_this_root])), (h_this_set, .inl (cI, 6, .inl v_set)), (h_this_number, .inl (cI, 15625, .inl v_number)), (h_this_ruleKind, .inl (cI, 24, .inl v_ruleKind)), (h_this_ruleBit, .inl (cI, 24, .inl v_ruleBit)), (h_this_ruleOther, .inl (cI, 24, .inl v_ruleOther)), (h_this_oldSet, .inl (cI, 300, .inl v_oldSet)), (h_this_oldNumber, .inl (cI, 300, .inl v_oldNumber)), (h_this_constant, .inl (cI, 6, .inl v_constant))] 0 [(0, .ref h_this)] [] := by
  unfold f_Md_reduce at hf
  refine z_aload_n C d_Md_reduce_0 rfl 0 rfl ?_
  refine z_iconst (v := 0) C d_Md_reduce_1 (by decide) ?_
  refine z_put (ws' := [(h_this, .inr (5, [.int (0 : Int32), .int v_wires, .int v_isOpen, .int v_isEmpty, .int v_came, .int v_there, .int v_halves, .ref h_this_number, .ref h_this_set, .ref h_this_constant, .int v_rules, .ref h_this_ruleKind, .ref h_this_ruleBit, .ref h_this_ruleOther, .int v_alone, .int v_halfBits, .ref h_this_oldSet, .ref h_this_oldNumber, .ref h_this_allSets, .ref h_this_allNumbers, .int v_allMany, .ref h_this_root])), (h_this_set, .inl (cI, 6, .inl v_set)), (h_this_number, .inl (cI, 15625, .inl v_number)), (h_this_ruleKind, .inl (cI, 24, .inl v_ruleKind)), (h_this_ruleBit, .inl (cI, 24, .inl v_ruleBit)), (h_this_ruleOther, .inl (cI, 24, .inl v_ruleOther)), (h_this_oldSet, .inl (cI, 300, .inl v_oldSet)), (h_this_oldNumber, .inl (cI, 300, .inl v_oldNumber)), (h_this_constant, .inl (cI, 6, .inl v_constant))]) C iw_Md t_Md t_Md_ok n_Md 0 rfl rfl 0 (by decide) zw_498 rfl (ty := .int) rfl rfl rfl (by simp) d_Md_reduce_2 rfl ?_
  refine z_aload_n C d_Md_reduce_5 rfl 0 rfl ?_
  refine z_get C iw_Md 0 rfl rfl 10 (by decide) zw_508 rfl d_Md_reduce_6 ?_
  refine z_istore_n (lv' := [(1, .int v_rules), (0, .ref h_this)]) C d_Md_reduce_9 rfl (by decide) rfl ?_
  refine z_iconst (v := 0) C d_Md_reduce_10 (by decide) ?_
  refine z_istore_n (lv' := [(2, .int (0 : Int32)), (1, .int v_rules), (0, .ref h_this)]) C d_Md_reduce_11 rfl (by decide) rfl ?_
  refine z_lv [2, 1, 0] rfl ?_
  obtain ⟨q_1, q_2, q_3, q_4, q_5, q_6, q_7, q_8, q_9, q_10, q_11, q_12, q_13, q_14, h_15, hf⟩ := zb14_elim hf
  refine k_Md_reduce_l12_run C hr h_15 ?_
  refine z_aload_n C d_Md_reduce_49 rfl 0 rfl ?_
  refine z_get C iw_Md 0 rfl rfl 10 (by decide) zw_508 rfl d_Md_reduce_50 ?_
  refine z_iload_n C d_Md_reduce_53 rfl 1 rfl ?_
  refine z_isub C d_Md_reduce_54 ?_
  cases hf
  exact z_iret C hr d_Md_reduce_55
theorem c_Md_reduce {l : Launch} {D : va_G} {cI cL : ClassId} {h_this h_this_number h_this_set h_this_constant h_this_ruleKind h_this_ruleBit h_this_ruleOther h_this_oldSet h_this_oldNumber h_this_allSets h_this_allNumbers h_this_root : Nat} {v_thrown v_wires v_isOpen v_isEmpty v_came v_there v_halves v_rules v_alone v_halfBits v_allMany rr o_thrown o_isEmpty o_there o_halves o_rules o_alone o_halfBits : Int32} {v_set v_number v_ruleKind v_ruleBit v_ruleOther v_oldSet v_oldNumber v_constant o_set o_number o_ruleKind o_ruleBit o_ruleOther o_oldSet o_oldNumber o_constant : Nat → Int32} (hf : f_Md_reduce v_thrown v_wires v_isOpen v_isEmpty v_there v_halves v_rules v_alone v_halfBits v_set v_number v_ruleKind v_ruleBit v_ruleOther v_oldSet v_oldNumber v_constant = some (rr, o_thrown, o_isEmpty, o_there, o_halves, o_rules, o_alone, o_halfBits, o_set, o_number, o_ruleKind, o_ruleBit, o_ruleOther, o_oldSet, o_oldNumber, o_constant)) : zM l y_Md_reduce (Cond.code y_Md_reduce b_Md_reduce 4 (some .int) :: zT) rm_Md_reduce D vwCl [(cI, .int), (cL, .long)] [.ref h_this] [(h_this, .inr (5, [.int v_thrown, .int v_wires, .int v_isOpen, .int v_isEmpty, .int v_came, .int v_there, .int v_halves, .ref h_this_number, .ref h_this_set, .ref h_this_constant, .int v_rules, .ref h_this_ruleKind, .ref h_this_ruleBit, .ref h_this_ruleOther, .int v_alone, .int v_halfBits, .ref h_this_oldSet, .ref h_this_oldNumber, .ref h_this_allSets, .ref h_this_allNumbers, .int v_allMany, .ref h_this_root])), (h_this_set, .inl (cI, 6, .inl v_set)), (h_this_number, .inl (cI, 15625, .inl v_number)), (h_this_ruleKind, .inl (cI, 24, .inl v_ruleKind)), (h_this_ruleBit, .inl (cI, 24, .inl v_ruleBit)), (h_this_ruleOther, .inl (cI, 24, .inl v_ruleOther)), (h_this_oldSet, .inl (cI, 300, .inl v_oldSet)), (h_this_oldNumber, .inl (cI, 300, .inl v_oldNumber)), (h_this_constant, .inl (cI, 6, .inl v_constant))] [(h_this, .inr (5, [.int o_thrown, .int v_wires, .int v_isOpen, .int o_isEmpty, .int v_came, .int o_there, .int o_halves, .ref h_this_number, .ref h_this_set, .ref h_this_constant, .int o_rules, .ref h_this_ruleKind, .ref h_this_ruleBit, .ref h_this_ruleOther, .int o_alone, .int o_halfBits, .ref h_this_oldSet, .ref h_this_oldNumber, .ref h_this_allSets, .ref h_this_allNumbers, .int v_allMany, .ref h_this_root])), (h_this_set, .inl (cI, 6, .inl o_set)), (h_this_number, .inl (cI, 15625, .inl o_number)), (h_this_ruleKind, .inl (cI, 24, .inl o_ruleKind)), (h_this_ruleBit, .inl (cI, 24, .inl o_ruleBit)), (h_this_ruleOther, .inl (cI, 24, .inl o_ruleOther)), (h_this_oldSet, .inl (cI, 300, .inl o_oldSet)), (h_this_oldNumber, .inl (cI, 300, .inl o_oldNumber)), (h_this_constant, .inl (cI, 6, .inl o_constant))] (some (.int rr)) :=
  zM.intro (by decide) rfl (fun _ h => List.mem_cons_of_mem _ h) (Nat.le_of_ble_eq_true rfl) (fun _ _ _ _ _ _ _ C hr _ => k_Md_reduce C hr hf)
def rm_Md_rule : Room := { frames := 0, cells := 0, slots := 0, locals := 0 }
/-- PathSumsModel.rule(II)I -/
def f_Md_rule (x1 : Int32) (x2 : Int32) (v_thrown : Int32) (v_rules : Int32) (v_ruleKind : Nat → Int32) (v_ruleBit : Nat → Int32) (v_ruleOther : Nat → Int32) : Option (Int32 × Int32) :=
  if x1 < 0 then (
    some ((-1 : Int32), (0 : Int32)))
  else (
    if x1 < v_rules then (
      if x2 = 0 then (
        if x1 < 0 ∨ 24 ≤ x1.toNatClampNeg then none else
        some (v_ruleKind x1.toNatClampNeg, (0 : Int32)))
      else (
        if x2 = (1 : Int32) then (
          if x1 < 0 ∨ 24 ≤ x1.toNatClampNeg then none else
          some (v_ruleBit x1.toNatClampNeg, (0 : Int32)))
        else (
          if x2 = (2 : Int32) then (
            if x1 < 0 ∨ 24 ≤ x1.toNatClampNeg then none else
            some (v_ruleOther x1.toNatClampNeg, (0 : Int32)))
          else (
            some ((-1 : Int32), (0 : Int32))))))
    else (
      some ((-1 : Int32), (0 : Int32))))
set_option maxRecDepth 100000 in
set_option maxHeartbeats 4000000 in
theorem k_Md_rule {p : Program} {l : Launch} {e : Env} {s : State} {m : MethodId} {args : Array Value} {below : List Frame} {meth : Method} {c : Code} {D : va_G} {cI cL : ClassId} {h_this h_this_number h_this_set h_this_constant h_this_ruleKind h_this_ruleBit h_this_ruleOther h_this_oldSet h_this_oldNumber h_this_allSets h_this_allNumbers h_this_root : Nat} {v_thrown v_wires v_isOpen v_isEmpty v_came v_there v_halves v_rules v_alone v_halfBits v_allMany rr o_thrown x1 x2 : Int32} {v_ruleKind v_ruleBit v_ruleOther : Nat → Int32} (C : zC p s m args meth c b_Md_rule 3 R_Md D vwCl [(cI, .int), (cL, .long)] (zA [h_this, h_this_ruleKind, h_this_ruleBit, h_this_ruleOther] s.heap.size)) (hr : meth.sig.returnType = some .int) (hf : f_Md_rule x1 x2 v_thrown v_rules v_ruleKind v_ruleBit v_ruleOther = some (rr, o_thrown)) : ZV p l e rm_Md_rule s m args below meth c 3 D (some (.int rr)) [(h_this, .inr (5, [.int o_thrown, .int v_wires, .int v_isOpen, .int v_isEmpty, .int v_came, .int v_there, .int v_halves, .ref h_this_number, .ref h_this_set, .ref h_this_constant, .int v_rules, .ref h_this_ruleKind, .ref h_this_ruleBit, .ref h_this_ruleOther, .int v_alone, .int v_halfBits, .ref h_this_oldSet, .ref h_this_oldNumber, .ref h_this_allSets, .ref h_this_allNumbers, .int v_allMany, .ref h_this_root])), (h_this_ruleKind, .inl (cI, 24, .inl v_ruleKind)), (h_this_ruleBit, .inl (cI, 24, .inl v_ruleBit)), (h_this_ruleOther, .inl (cI, 24, .inl v_ruleOther))] [h_this, h_this_ruleKind, h_this_ruleBit, h_this_ruleOther] [(h_this, .inr (5, [.int v_thrown, .int v_wires, .int v_isOpen, .int v_isEmpty, .int v_came, .int v_there, .int v_halves, .ref h_this_number, .ref h_this_set, .ref h_this_constant, .int v_rules, .ref h_this_ruleKind, .ref h_this_ruleBit, .ref h_this_ruleOther, .int v_alone, .int v_halfBits, .ref h_this_oldSet, .ref h_this_oldNumber, .ref h_this_allSets, .ref h_this_allNumbers, .int v_allMany, .ref h_this_root])), (h_this_ruleKind, .inl (cI, 24, .inl v_ruleKind)), (h_this_ruleBit, .inl (cI, 24, .inl v_ruleBit)), (h_this_ruleOther, .inl (cI, 24, .inl v_ruleOther))] 0 [(0, .ref h_this), (1, .int x1), (2, .int x2)] [] := by
  unfold f_Md_rule at hf
  refine z_aload_n C d_Md_rule_0 rfl 0 rfl ?_
  refine z_iconst (v := 0) C d_Md_rule_1 (by decide) ?_
  refine z_put (ws' := [(h_this, .inr (5, [.int (0 : Int32), .int v_wires, .int v_isOpen, .int v_isEmpty, .int v_came, .int v_there, .int v_halves, .ref h_this_number, .ref h_this_set, .ref h_this_constant, .int v_rules, .ref h_this_ruleKind, .ref h_this_ruleBit, .ref h_this_ruleOther, .int v_alone, .int v_halfBits, .ref h_this_oldSet, .ref h_this_oldNumber, .ref h_this_allSets, .ref h_this_allNumbers, .int v_allMany, .ref h_this_root])), (h_this_ruleKind, .inl (cI, 24, .inl v_ruleKind)), (h_this_ruleBit, .inl (cI, 24, .inl v_ruleBit)), (h_this_ruleOther, .inl (cI, 24, .inl v_ruleOther))]) C iw_Md t_Md t_Md_ok n_Md 0 rfl rfl 0 (by decide) zw_498 rfl (ty := .int) rfl rfl rfl (by simp) d_Md_rule_2 rfl ?_
  refine z_iload_n C d_Md_rule_5 rfl 1 rfl ?_
  refine z_if_lt (tgt := 17) C d_Md_rule_6 (by decide) (fun c_1 => ?_) (fun c_1 => ?_)
  · have hf := zif_pos c_1 hf
    refine z_iconst (v := -1) C d_Md_rule_17 (by decide) ?_
    cases hf
    exact z_iret C hr d_Md_rule_18
  · have hf := zif_neg c_1 hf
    refine z_iload_n C d_Md_rule_9 rfl 1 rfl ?_
    refine z_aload_n C d_Md_rule_10 rfl 0 rfl ?_
    refine z_get C iw_Md 0 rfl rfl 10 (by decide) zw_508 rfl d_Md_rule_11 ?_
    refine z_icmp_lt (tgt := 19) C d_Md_rule_14 (by decide) (fun c_2 => ?_) (fun c_2 => ?_)
    · have hf := zif_pos c_2 hf
      refine z_iload_n C d_Md_rule_19 rfl 2 rfl ?_
      refine z_if_ne (tgt := 32) C d_Md_rule_20 (by decide) (fun c_3 => ?_) (fun c_3 => ?_)
      · have hf := zif_neg c_3 hf
        refine z_iload_n C d_Md_rule_32 rfl 2 rfl ?_
        refine z_iconst (v := 1) C d_Md_rule_33 (by decide) ?_
        refine z_icmp_ne (tgt := 46) C d_Md_rule_34 (by decide) (fun c_5 => ?_) (fun c_5 => ?_)
        · have hf := zif_neg c_5 hf
          refine z_iload_n C d_Md_rule_46 rfl 2 rfl ?_
          refine z_iconst (v := 2) C d_Md_rule_47 (by decide) ?_
          refine z_icmp_ne (tgt := 60) C d_Md_rule_48 (by decide) (fun c_7 => ?_) (fun c_7 => ?_)
          · have hf := zif_neg c_7 hf
            refine z_iconst (v := -1) C d_Md_rule_60 (by decide) ?_
            cases hf
            exact z_iret C hr d_Md_rule_61
          · have hf := zif_pos c_7 hf
            refine z_aload_n C d_Md_rule_51 rfl 0 rfl ?_
            refine z_get C iw_Md 0 rfl rfl 13 (by decide) zw_511 rfl d_Md_rule_52 ?_
            refine z_iload_n C d_Md_rule_55 rfl 1 rfl ?_
            obtain ⟨g_8, hf⟩ := zguard hf
            refine z_iald C 3 0 rfl rfl g_8 d_Md_rule_56 ?_
            refine z_goto (tgt := 61) C d_Md_rule_57 (by decide) ?_
            cases hf
            exact z_iret C hr d_Md_rule_61
        · have hf := zif_pos c_5 hf
          refine z_aload_n C d_Md_rule_37 rfl 0 rfl ?_
          refine z_get C iw_Md 0 rfl rfl 12 (by decide) zw_510 rfl d_Md_rule_38 ?_
          refine z_iload_n C d_Md_rule_41 rfl 1 rfl ?_
          obtain ⟨g_6, hf⟩ := zguard hf
          refine z_iald C 2 0 rfl rfl g_6 d_Md_rule_42 ?_
          refine z_goto (tgt := 61) C d_Md_rule_43 (by decide) ?_
          cases hf
          exact z_iret C hr d_Md_rule_61
      · have hf := zif_pos c_3 hf
        refine z_aload_n C d_Md_rule_23 rfl 0 rfl ?_
        refine z_get C iw_Md 0 rfl rfl 11 (by decide) zw_509 rfl d_Md_rule_24 ?_
        refine z_iload_n C d_Md_rule_27 rfl 1 rfl ?_
        obtain ⟨g_4, hf⟩ := zguard hf
        refine z_iald C 1 0 rfl rfl g_4 d_Md_rule_28 ?_
        refine z_goto (tgt := 61) C d_Md_rule_29 (by decide) ?_
        cases hf
        exact z_iret C hr d_Md_rule_61
    · have hf := zif_neg c_2 hf
      refine z_iconst (v := -1) C d_Md_rule_17 (by decide) ?_
      cases hf
      exact z_iret C hr d_Md_rule_18
theorem c_Md_rule {l : Launch} {D : va_G} {cI cL : ClassId} {h_this h_this_number h_this_set h_this_constant h_this_ruleKind h_this_ruleBit h_this_ruleOther h_this_oldSet h_this_oldNumber h_this_allSets h_this_allNumbers h_this_root : Nat} {v_thrown v_wires v_isOpen v_isEmpty v_came v_there v_halves v_rules v_alone v_halfBits v_allMany rr o_thrown x1 x2 : Int32} {v_ruleKind v_ruleBit v_ruleOther : Nat → Int32} (hf : f_Md_rule x1 x2 v_thrown v_rules v_ruleKind v_ruleBit v_ruleOther = some (rr, o_thrown)) : zM l y_Md_rule (Cond.code y_Md_rule b_Md_rule 3 (some .int) :: zT) rm_Md_rule D vwCl [(cI, .int), (cL, .long)] [.ref h_this, .int x1, .int x2] [(h_this, .inr (5, [.int v_thrown, .int v_wires, .int v_isOpen, .int v_isEmpty, .int v_came, .int v_there, .int v_halves, .ref h_this_number, .ref h_this_set, .ref h_this_constant, .int v_rules, .ref h_this_ruleKind, .ref h_this_ruleBit, .ref h_this_ruleOther, .int v_alone, .int v_halfBits, .ref h_this_oldSet, .ref h_this_oldNumber, .ref h_this_allSets, .ref h_this_allNumbers, .int v_allMany, .ref h_this_root])), (h_this_ruleKind, .inl (cI, 24, .inl v_ruleKind)), (h_this_ruleBit, .inl (cI, 24, .inl v_ruleBit)), (h_this_ruleOther, .inl (cI, 24, .inl v_ruleOther))] [(h_this, .inr (5, [.int o_thrown, .int v_wires, .int v_isOpen, .int v_isEmpty, .int v_came, .int v_there, .int v_halves, .ref h_this_number, .ref h_this_set, .ref h_this_constant, .int v_rules, .ref h_this_ruleKind, .ref h_this_ruleBit, .ref h_this_ruleOther, .int v_alone, .int v_halfBits, .ref h_this_oldSet, .ref h_this_oldNumber, .ref h_this_allSets, .ref h_this_allNumbers, .int v_allMany, .ref h_this_root])), (h_this_ruleKind, .inl (cI, 24, .inl v_ruleKind)), (h_this_ruleBit, .inl (cI, 24, .inl v_ruleBit)), (h_this_ruleOther, .inl (cI, 24, .inl v_ruleOther))] (some (.int rr)) :=
  zM.intro (by decide) rfl (fun _ h => List.mem_cons_of_mem _ h) (Nat.le_of_ble_eq_true rfl) (fun _ _ _ _ _ _ _ C hr _ => k_Md_rule C hr hf)
def rm_Md_term : Room := { frames := 2, cells := 0, slots := 0, locals := 44 }
/-- PathSumsModel.term(I)I -/
def f_Md_term (x1 : Int32) (v_thrown : Int32) (v_came : Int32) (v_number : Nat → Int32) : Option (Int32 × Int32) :=
  if x1 < 0 then (
    some ((-1 : Int32), (0 : Int32)))
  else (
    if (zushr x1 v_came) = 0 then (
      zb1 (f_Md_count x1) fun r_4 =>
      if r_4 ≤ (3 : Int32) then (
        zb1 (f_Md_numberOf x1 v_number) fun r_7 =>
        some (r_7, (0 : Int32)))
      else (
        some ((-1 : Int32), (0 : Int32))))
    else (
      some ((-1 : Int32), (0 : Int32))))
set_option maxRecDepth 100000 in
set_option maxHeartbeats 4000000 in
theorem k_Md_term {p : Program} {l : Launch} {e : Env} {s : State} {m : MethodId} {args : Array Value} {below : List Frame} {meth : Method} {c : Code} {D : va_G} {cI cL : ClassId} {h_this h_this_number h_this_set h_this_constant h_this_ruleKind h_this_ruleBit h_this_ruleOther h_this_oldSet h_this_oldNumber h_this_allSets h_this_allNumbers h_this_root : Nat} {v_thrown v_wires v_isOpen v_isEmpty v_came v_there v_halves v_rules v_alone v_halfBits v_allMany rr o_thrown x1 : Int32} {v_number : Nat → Int32} (C : zC p s m args meth c b_Md_term 2 R_Md D vwCl [(cI, .int), (cL, .long)] (zA [h_this, h_this_number] s.heap.size)) (hr : meth.sig.returnType = some .int) (hf : f_Md_term x1 v_thrown v_came v_number = some (rr, o_thrown)) : ZV p l e rm_Md_term s m args below meth c 2 D (some (.int rr)) [(h_this, .inr (5, [.int o_thrown, .int v_wires, .int v_isOpen, .int v_isEmpty, .int v_came, .int v_there, .int v_halves, .ref h_this_number, .ref h_this_set, .ref h_this_constant, .int v_rules, .ref h_this_ruleKind, .ref h_this_ruleBit, .ref h_this_ruleOther, .int v_alone, .int v_halfBits, .ref h_this_oldSet, .ref h_this_oldNumber, .ref h_this_allSets, .ref h_this_allNumbers, .int v_allMany, .ref h_this_root])), (h_this_number, .inl (cI, 15625, .inl v_number))] [h_this, h_this_number] [(h_this, .inr (5, [.int v_thrown, .int v_wires, .int v_isOpen, .int v_isEmpty, .int v_came, .int v_there, .int v_halves, .ref h_this_number, .ref h_this_set, .ref h_this_constant, .int v_rules, .ref h_this_ruleKind, .ref h_this_ruleBit, .ref h_this_ruleOther, .int v_alone, .int v_halfBits, .ref h_this_oldSet, .ref h_this_oldNumber, .ref h_this_allSets, .ref h_this_allNumbers, .int v_allMany, .ref h_this_root])), (h_this_number, .inl (cI, 15625, .inl v_number))] 0 [(0, .ref h_this), (1, .int x1)] [] := by
  unfold f_Md_term at hf
  refine z_aload_n C d_Md_term_0 rfl 0 rfl ?_
  refine z_iconst (v := 0) C d_Md_term_1 (by decide) ?_
  refine z_put (ws' := [(h_this, .inr (5, [.int (0 : Int32), .int v_wires, .int v_isOpen, .int v_isEmpty, .int v_came, .int v_there, .int v_halves, .ref h_this_number, .ref h_this_set, .ref h_this_constant, .int v_rules, .ref h_this_ruleKind, .ref h_this_ruleBit, .ref h_this_ruleOther, .int v_alone, .int v_halfBits, .ref h_this_oldSet, .ref h_this_oldNumber, .ref h_this_allSets, .ref h_this_allNumbers, .int v_allMany, .ref h_this_root])), (h_this_number, .inl (cI, 15625, .inl v_number))]) C iw_Md t_Md t_Md_ok n_Md 0 rfl rfl 0 (by decide) zw_498 rfl (ty := .int) rfl rfl rfl (by simp) d_Md_term_2 rfl ?_
  refine z_iload_n C d_Md_term_5 rfl 1 rfl ?_
  refine z_if_lt (tgt := 26) C d_Md_term_6 (by decide) (fun c_1 => ?_) (fun c_1 => ?_)
  · have hf := zif_pos c_1 hf
    refine z_iconst (v := -1) C d_Md_term_26 (by decide) ?_
    cases hf
    exact z_iret C hr d_Md_term_27
  · have hf := zif_neg c_1 hf
    refine z_iload_n C d_Md_term_9 rfl 1 rfl ?_
    refine z_aload_n C d_Md_term_10 rfl 0 rfl ?_
    refine z_get C iw_Md 0 rfl rfl 4 (by decide) zw_502 rfl d_Md_term_11 ?_
    refine z_iushr C d_Md_term_14 ?_
    refine z_if_ne (tgt := 26) C d_Md_term_15 (by decide) (fun c_2 => ?_) (fun c_2 => ?_)
    · have hf := zif_neg c_2 hf
      refine z_iconst (v := -1) C d_Md_term_26 (by decide) ?_
      cases hf
      exact z_iret C hr d_Md_term_27
    · have hf := zif_pos c_2 hf
      refine z_iload_n C d_Md_term_18 rfl 1 rfl ?_
      obtain ⟨r_4, h_3, hf⟩ := zb1_elim hf
      refine z_callS (As := [.int x1]) (rest := []) (ws' := [(h_this, .inr (5, [.int (0 : Int32), .int v_wires, .int v_isOpen, .int v_isEmpty, .int v_came, .int v_there, .int v_halves, .ref h_this_number, .ref h_this_set, .ref h_this_constant, .int v_rules, .ref h_this_ruleKind, .ref h_this_ruleBit, .ref h_this_ruleOther, .int v_alone, .int v_halfBits, .ref h_this_oldSet, .ref h_this_oldNumber, .ref h_this_allSets, .ref h_this_allNumbers, .int v_allMany, .ref h_this_root])), (h_this_number, .inl (cI, 15625, .inl v_number))]) C (c_Md_count h_3) mi_Md_count zw_605 (by decide) [] (by decide) rfl rfl rfl rfl rfl (by decide) ⟨Nat.zero_le _, Nat.zero_le _⟩ d_Md_term_19 ?_
      refine z_iconst (v := 3) C d_Md_term_22 (by decide) ?_
      refine z_icmp_le (tgt := 28) C d_Md_term_23 (by decide) (fun c_5 => ?_) (fun c_5 => ?_)
      · have hf := zif_pos c_5 hf
        refine z_aload_n C d_Md_term_28 rfl 0 rfl ?_
        refine z_iload_n C d_Md_term_29 rfl 1 rfl ?_
        obtain ⟨r_7, h_6, hf⟩ := zb1_elim hf
        refine z_callV (As := [.int x1]) (rest := []) (ws' := [(h_this, .inr (5, [.int (0 : Int32), .int v_wires, .int v_isOpen, .int v_isEmpty, .int v_came, .int v_there, .int v_halves, .ref h_this_number, .ref h_this_set, .ref h_this_constant, .int v_rules, .ref h_this_ruleKind, .ref h_this_ruleBit, .ref h_this_ruleOther, .int v_alone, .int v_halfBits, .ref h_this_oldSet, .ref h_this_oldNumber, .ref h_this_allSets, .ref h_this_allNumbers, .int v_allMany, .ref h_this_root])), (h_this_number, .inl (cI, 15625, .inl v_number))]) C (c_Md_numberOf h_6) mi_Md_numberOf zw_646 (by decide) 0 rfl rfl [0, 1] (by decide) rfl rfl rfl rfl rfl (by decide) ⟨Nat.zero_le _, Nat.zero_le _⟩ d_Md_term_30 ?_
        cases hf
        exact z_iret C hr d_Md_term_33
      · have hf := zif_neg c_5 hf
        refine z_iconst (v := -1) C d_Md_term_26 (by decide) ?_
        cases hf
        exact z_iret C hr d_Md_term_27
theorem c_Md_term {l : Launch} {D : va_G} {cI cL : ClassId} {h_this h_this_number h_this_set h_this_constant h_this_ruleKind h_this_ruleBit h_this_ruleOther h_this_oldSet h_this_oldNumber h_this_allSets h_this_allNumbers h_this_root : Nat} {v_thrown v_wires v_isOpen v_isEmpty v_came v_there v_halves v_rules v_alone v_halfBits v_allMany rr o_thrown x1 : Int32} {v_number : Nat → Int32} (hf : f_Md_term x1 v_thrown v_came v_number = some (rr, o_thrown)) : zM l y_Md_term (Cond.code y_Md_term b_Md_term 2 (some .int) :: zT) rm_Md_term D vwCl [(cI, .int), (cL, .long)] [.ref h_this, .int x1] [(h_this, .inr (5, [.int v_thrown, .int v_wires, .int v_isOpen, .int v_isEmpty, .int v_came, .int v_there, .int v_halves, .ref h_this_number, .ref h_this_set, .ref h_this_constant, .int v_rules, .ref h_this_ruleKind, .ref h_this_ruleBit, .ref h_this_ruleOther, .int v_alone, .int v_halfBits, .ref h_this_oldSet, .ref h_this_oldNumber, .ref h_this_allSets, .ref h_this_allNumbers, .int v_allMany, .ref h_this_root])), (h_this_number, .inl (cI, 15625, .inl v_number))] [(h_this, .inr (5, [.int o_thrown, .int v_wires, .int v_isOpen, .int v_isEmpty, .int v_came, .int v_there, .int v_halves, .ref h_this_number, .ref h_this_set, .ref h_this_constant, .int v_rules, .ref h_this_ruleKind, .ref h_this_ruleBit, .ref h_this_ruleOther, .int v_alone, .int v_halfBits, .ref h_this_oldSet, .ref h_this_oldNumber, .ref h_this_allSets, .ref h_this_allNumbers, .int v_allMany, .ref h_this_root])), (h_this_number, .inl (cI, 15625, .inl v_number))] (some (.int rr)) :=
  zM.intro (by decide) rfl (fun _ h => List.mem_cons_of_mem _ h) (Nat.le_of_ble_eq_true rfl) (fun _ _ _ _ _ _ _ C hr _ => k_Md_term C hr hf)
def rm_Md_wire : Room := { frames := 1, cells := 0, slots := 0, locals := 21 }
/-- PathSumsModel.wire(II)I -/
def f_Md_wire (x1 : Int32) (x2 : Int32) (v_thrown : Int32) (v_wires : Int32) (v_set : Nat → Int32) (v_constant : Nat → Int32) : Option (Int32 × Int32) :=
  if (f_Md_isWire x1 v_wires) = 0 then (
    some ((-1 : Int32), (0 : Int32)))
  else (
    if x2 = 0 then (
      if x1 < 0 ∨ 6 ≤ x1.toNatClampNeg then none else
      some (v_set x1.toNatClampNeg, (0 : Int32)))
    else (
      if x2 = (1 : Int32) then (
        if x1 < 0 ∨ 6 ≤ x1.toNatClampNeg then none else
        some (v_constant x1.toNatClampNeg, (0 : Int32)))
      else (
        some ((-1 : Int32), (0 : Int32)))))
set_option maxRecDepth 100000 in
set_option maxHeartbeats 4000000 in
theorem k_Md_wire {p : Program} {l : Launch} {e : Env} {s : State} {m : MethodId} {args : Array Value} {below : List Frame} {meth : Method} {c : Code} {D : va_G} {cI cL : ClassId} {h_this h_this_number h_this_set h_this_constant h_this_ruleKind h_this_ruleBit h_this_ruleOther h_this_oldSet h_this_oldNumber h_this_allSets h_this_allNumbers h_this_root : Nat} {v_thrown v_wires v_isOpen v_isEmpty v_came v_there v_halves v_rules v_alone v_halfBits v_allMany rr o_thrown x1 x2 : Int32} {v_set v_constant : Nat → Int32} (C : zC p s m args meth c b_Md_wire 3 R_Md D vwCl [(cI, .int), (cL, .long)] (zA [h_this, h_this_set, h_this_constant] s.heap.size)) (hr : meth.sig.returnType = some .int) (hf : f_Md_wire x1 x2 v_thrown v_wires v_set v_constant = some (rr, o_thrown)) : ZV p l e rm_Md_wire s m args below meth c 3 D (some (.int rr)) [(h_this, .inr (5, [.int o_thrown, .int v_wires, .int v_isOpen, .int v_isEmpty, .int v_came, .int v_there, .int v_halves, .ref h_this_number, .ref h_this_set, .ref h_this_constant, .int v_rules, .ref h_this_ruleKind, .ref h_this_ruleBit, .ref h_this_ruleOther, .int v_alone, .int v_halfBits, .ref h_this_oldSet, .ref h_this_oldNumber, .ref h_this_allSets, .ref h_this_allNumbers, .int v_allMany, .ref h_this_root])), (h_this_set, .inl (cI, 6, .inl v_set)), (h_this_constant, .inl (cI, 6, .inl v_constant))] [h_this, h_this_set, h_this_constant] [(h_this, .inr (5, [.int v_thrown, .int v_wires, .int v_isOpen, .int v_isEmpty, .int v_came, .int v_there, .int v_halves, .ref h_this_number, .ref h_this_set, .ref h_this_constant, .int v_rules, .ref h_this_ruleKind, .ref h_this_ruleBit, .ref h_this_ruleOther, .int v_alone, .int v_halfBits, .ref h_this_oldSet, .ref h_this_oldNumber, .ref h_this_allSets, .ref h_this_allNumbers, .int v_allMany, .ref h_this_root])), (h_this_set, .inl (cI, 6, .inl v_set)), (h_this_constant, .inl (cI, 6, .inl v_constant))] 0 [(0, .ref h_this), (1, .int x1), (2, .int x2)] [] := by
  unfold f_Md_wire at hf
  refine z_aload_n C d_Md_wire_0 rfl 0 rfl ?_
  refine z_iconst (v := 0) C d_Md_wire_1 (by decide) ?_
  refine z_put (ws' := [(h_this, .inr (5, [.int (0 : Int32), .int v_wires, .int v_isOpen, .int v_isEmpty, .int v_came, .int v_there, .int v_halves, .ref h_this_number, .ref h_this_set, .ref h_this_constant, .int v_rules, .ref h_this_ruleKind, .ref h_this_ruleBit, .ref h_this_ruleOther, .int v_alone, .int v_halfBits, .ref h_this_oldSet, .ref h_this_oldNumber, .ref h_this_allSets, .ref h_this_allNumbers, .int v_allMany, .ref h_this_root])), (h_this_set, .inl (cI, 6, .inl v_set)), (h_this_constant, .inl (cI, 6, .inl v_constant))]) C iw_Md t_Md t_Md_ok n_Md 0 rfl rfl 0 (by decide) zw_498 rfl (ty := .int) rfl rfl rfl (by simp) d_Md_wire_2 rfl ?_
  refine z_aload_n C d_Md_wire_5 rfl 0 rfl ?_
  refine z_iload_n C d_Md_wire_6 rfl 1 rfl ?_
  refine z_callV (As := [.int x1]) (rest := []) (ws' := [(h_this, .inr (5, [.int (0 : Int32), .int v_wires, .int v_isOpen, .int v_isEmpty, .int v_came, .int v_there, .int v_halves, .ref h_this_number, .ref h_this_set, .ref h_this_constant, .int v_rules, .ref h_this_ruleKind, .ref h_this_ruleBit, .ref h_this_ruleOther, .int v_alone, .int v_halfBits, .ref h_this_oldSet, .ref h_this_oldNumber, .ref h_this_allSets, .ref h_this_allNumbers, .int v_allMany, .ref h_this_root])), (h_this_set, .inl (cI, 6, .inl v_set)), (h_this_constant, .inl (cI, 6, .inl v_constant))]) C (c_Md_isWire rfl) mi_Md_isWire zw_585 (by decide) 0 rfl rfl [0] (by decide) rfl rfl rfl rfl rfl (by decide) ⟨Nat.zero_le _, Nat.zero_le _⟩ d_Md_wire_7 ?_
  refine z_if_ne (tgt := 15) C d_Md_wire_10 (by decide) (fun c_2 => ?_) (fun c_2 => ?_)
  · have hf := zif_neg c_2 hf
    refine z_iload_n C d_Md_wire_15 rfl 2 rfl ?_
    refine z_if_ne (tgt := 28) C d_Md_wire_16 (by decide) (fun c_3 => ?_) (fun c_3 => ?_)
    · have hf := zif_neg c_3 hf
      refine z_iload_n C d_Md_wire_28 rfl 2 rfl ?_
      refine z_iconst (v := 1) C d_Md_wire_29 (by decide) ?_
      refine z_icmp_ne (tgt := 42) C d_Md_wire_30 (by decide) (fun c_5 => ?_) (fun c_5 => ?_)
      · have hf := zif_neg c_5 hf
        refine z_iconst (v := -1) C d_Md_wire_42 (by decide) ?_
        cases hf
        exact z_iret C hr d_Md_wire_43
      · have hf := zif_pos c_5 hf
        refine z_aload_n C d_Md_wire_33 rfl 0 rfl ?_
        refine z_get C iw_Md 0 rfl rfl 9 (by decide) zw_507 rfl d_Md_wire_34 ?_
        refine z_iload_n C d_Md_wire_37 rfl 1 rfl ?_
        obtain ⟨g_6, hf⟩ := zguard hf
        refine z_iald C 2 0 rfl rfl g_6 d_Md_wire_38 ?_
        refine z_goto (tgt := 43) C d_Md_wire_39 (by decide) ?_
        cases hf
        exact z_iret C hr d_Md_wire_43
    · have hf := zif_pos c_3 hf
      refine z_aload_n C d_Md_wire_19 rfl 0 rfl ?_
      refine z_get C iw_Md 0 rfl rfl 8 (by decide) zw_506 rfl d_Md_wire_20 ?_
      refine z_iload_n C d_Md_wire_23 rfl 1 rfl ?_
      obtain ⟨g_4, hf⟩ := zguard hf
      refine z_iald C 1 0 rfl rfl g_4 d_Md_wire_24 ?_
      refine z_goto (tgt := 43) C d_Md_wire_25 (by decide) ?_
      cases hf
      exact z_iret C hr d_Md_wire_43
  · have hf := zif_pos c_2 hf
    refine z_iconst (v := -1) C d_Md_wire_13 (by decide) ?_
    cases hf
    exact z_iret C hr d_Md_wire_14
theorem c_Md_wire {l : Launch} {D : va_G} {cI cL : ClassId} {h_this h_this_number h_this_set h_this_constant h_this_ruleKind h_this_ruleBit h_this_ruleOther h_this_oldSet h_this_oldNumber h_this_allSets h_this_allNumbers h_this_root : Nat} {v_thrown v_wires v_isOpen v_isEmpty v_came v_there v_halves v_rules v_alone v_halfBits v_allMany rr o_thrown x1 x2 : Int32} {v_set v_constant : Nat → Int32} (hf : f_Md_wire x1 x2 v_thrown v_wires v_set v_constant = some (rr, o_thrown)) : zM l y_Md_wire (Cond.code y_Md_wire b_Md_wire 3 (some .int) :: zT) rm_Md_wire D vwCl [(cI, .int), (cL, .long)] [.ref h_this, .int x1, .int x2] [(h_this, .inr (5, [.int v_thrown, .int v_wires, .int v_isOpen, .int v_isEmpty, .int v_came, .int v_there, .int v_halves, .ref h_this_number, .ref h_this_set, .ref h_this_constant, .int v_rules, .ref h_this_ruleKind, .ref h_this_ruleBit, .ref h_this_ruleOther, .int v_alone, .int v_halfBits, .ref h_this_oldSet, .ref h_this_oldNumber, .ref h_this_allSets, .ref h_this_allNumbers, .int v_allMany, .ref h_this_root])), (h_this_set, .inl (cI, 6, .inl v_set)), (h_this_constant, .inl (cI, 6, .inl v_constant))] [(h_this, .inr (5, [.int o_thrown, .int v_wires, .int v_isOpen, .int v_isEmpty, .int v_came, .int v_there, .int v_halves, .ref h_this_number, .ref h_this_set, .ref h_this_constant, .int v_rules, .ref h_this_ruleKind, .ref h_this_ruleBit, .ref h_this_ruleOther, .int v_alone, .int v_halfBits, .ref h_this_oldSet, .ref h_this_oldNumber, .ref h_this_allSets, .ref h_this_allNumbers, .int v_allMany, .ref h_this_root])), (h_this_set, .inl (cI, 6, .inl v_set)), (h_this_constant, .inl (cI, 6, .inl v_constant))] (some (.int rr)) :=
  zM.intro (by decide) rfl (fun _ h => List.mem_cons_of_mem _ h) (Nat.le_of_ble_eq_true rfl) (fun _ _ _ _ _ _ _ C hr _ => k_Md_wire C hr hf)
def rm_Md_listAll : Room := { frames := 0, cells := 0, slots := 0, locals := 0 }
def f_Md_listAll_l33 (x1 : Int32) (v_allMany : Int32) (v_number : Nat → Int32) (v_allSets : Nat → Int32) (v_allNumbers : Nat → Int32) (x2 : Int32) (x3 : Int32) (x4 : Int32) : Option ((Int32 × Int32 × Int32) ⊕ (Int32)) :=
  if (3 : Int32) ≤ x4 then (
    some (.inr (x2)))
  else (
    if (24 : Int32) ≤ (x3 - x3 / (25 : Int32) * (25 : Int32)) then (
      zlet (x3 / (25 : Int32)) fun y_3 =>
      zlet (x4 + 1) fun y_4 =>
      some (.inl (x2, y_3, y_4)))
    else (
      zlet (x2 ||| ((1 : Int32) <<< ((x3 - x3 / (25 : Int32) * (25 : Int32)) &&& 31))) fun y_5 =>
      zlet (x3 / (25 : Int32)) fun y_6 =>
      zlet (x4 + 1) fun y_7 =>
      some (.inl (y_5, y_6, y_7))))
set_option maxRecDepth 100000 in
set_option maxHeartbeats 4000000 in
theorem k_Md_listAll_l33 {p : Program} {l : Launch} {e : Env} {s : State} {m : MethodId} {args : Array Value} {below : List Frame} {meth : Method} {c : Code} {D : va_G} {cI cL : ClassId} {h_this h_this_number h_this_set h_this_constant h_this_ruleKind h_this_ruleBit h_this_ruleOther h_this_oldSet h_this_oldNumber h_this_allSets h_this_allNumbers h_this_root : Nat} {v_thrown v_wires v_isOpen v_isEmpty v_came v_there v_halves v_rules v_alone v_halfBits v_allMany o_allMany x1 x2 x3 x4 : Int32} {v_number v_allSets v_allNumbers o_allSets o_allNumbers : Nat → Int32} (C : zC p s m args meth c b_Md_listAll 5 R_Md D vwCl [(cI, .int), (cL, .long)] (zA [h_this, h_this_number, h_this_allSets, h_this_allNumbers] s.heap.size)) (hr : meth.sig.returnType = none) {z : (Int32 × Int32 × Int32) ⊕ (Int32)} (hf : f_Md_listAll_l33 x1 v_allMany v_number v_allSets v_allNumbers x2 x3 x4 = some z) (hK : zcase (fun q => ZV p l e rm_Md_listAll s m args below meth c 5 D (none) [(h_this, .inr (5, [.int v_thrown, .int v_wires, .int v_isOpen, .int v_isEmpty, .int v_came, .int v_there, .int v_halves, .ref h_this_number, .ref h_this_set, .ref h_this_constant, .int v_rules, .ref h_this_ruleKind, .ref h_this_ruleBit, .ref h_this_ruleOther, .int v_alone, .int v_halfBits, .ref h_this_oldSet, .ref h_this_oldNumber, .ref h_this_allSets, .ref h_this_allNumbers, .int o_allMany, .ref h_this_root])), (h_this_number, .inl (cI, 15625, .inl v_number)), (h_this_allSets, .inl (cI, 2325, .inl o_allSets)), (h_this_allNumbers, .inl (cI, 2325, .inl o_allNumbers))] [h_this, h_this_number, h_this_allSets, h_this_allNumbers] [(h_this, .inr (5, [.int v_thrown, .int v_wires, .int v_isOpen, .int v_isEmpty, .int v_came, .int v_there, .int v_halves, .ref h_this_number, .ref h_this_set, .ref h_this_constant, .int v_rules, .ref h_this_ruleKind, .ref h_this_ruleBit, .ref h_this_ruleOther, .int v_alone, .int v_halfBits, .ref h_this_oldSet, .ref h_this_oldNumber, .ref h_this_allSets, .ref h_this_allNumbers, .int v_allMany, .ref h_this_root])), (h_this_number, .inl (cI, 15625, .inl v_number)), (h_this_allSets, .inl (cI, 2325, .inl v_allSets)), (h_this_allNumbers, .inl (cI, 2325, .inl v_allNumbers))] 33 [(0, .ref h_this), (1, .int x1), (2, .int q.1), (3, .int q.2.1), (4, .int q.2.2)] []) (fun q => ZV p l e rm_Md_listAll s m args below meth c 5 D (none) [(h_this, .inr (5, [.int v_thrown, .int v_wires, .int v_isOpen, .int v_isEmpty, .int v_came, .int v_there, .int v_halves, .ref h_this_number, .ref h_this_set, .ref h_this_constant, .int v_rules, .ref h_this_ruleKind, .ref h_this_ruleBit, .ref h_this_ruleOther, .int v_alone, .int v_halfBits, .ref h_this_oldSet, .ref h_this_oldNumber, .ref h_this_allSets, .ref h_this_allNumbers, .int o_allMany, .ref h_this_root])), (h_this_number, .inl (cI, 15625, .inl v_number)), (h_this_allSets, .inl (cI, 2325, .inl o_allSets)), (h_this_allNumbers, .inl (cI, 2325, .inl o_allNumbers))] [h_this, h_this_number, h_this_allSets, h_this_allNumbers] [(h_this, .inr (5, [.int v_thrown, .int v_wires, .int v_isOpen, .int v_isEmpty, .int v_came, .int v_there, .int v_halves, .ref h_this_number, .ref h_this_set, .ref h_this_constant, .int v_rules, .ref h_this_ruleKind, .ref h_this_ruleBit, .ref h_this_ruleOther, .int v_alone, .int v_halfBits, .ref h_this_oldSet, .ref h_this_oldNumber, .ref h_this_allSets, .ref h_this_allNumbers, .int v_allMany, .ref h_this_root])), (h_this_number, .inl (cI, 15625, .inl v_number)), (h_this_allSets, .inl (cI, 2325, .inl v_allSets)), (h_this_allNumbers, .inl (cI, 2325, .inl v_allNumbers))] 68 [(0, .ref h_this), (1, .int x1), (2, .int q)] []) z) : ZV p l e rm_Md_listAll s m args below meth c 5 D (none) [(h_this, .inr (5, [.int v_thrown, .int v_wires, .int v_isOpen, .int v_isEmpty, .int v_came, .int v_there, .int v_halves, .ref h_this_number, .ref h_this_set, .ref h_this_constant, .int v_rules, .ref h_this_ruleKind, .ref h_this_ruleBit, .ref h_this_ruleOther, .int v_alone, .int v_halfBits, .ref h_this_oldSet, .ref h_this_oldNumber, .ref h_this_allSets, .ref h_this_allNumbers, .int o_allMany, .ref h_this_root])), (h_this_number, .inl (cI, 15625, .inl v_number)), (h_this_allSets, .inl (cI, 2325, .inl o_allSets)), (h_this_allNumbers, .inl (cI, 2325, .inl o_allNumbers))] [h_this, h_this_number, h_this_allSets, h_this_allNumbers] [(h_this, .inr (5, [.int v_thrown, .int v_wires, .int v_isOpen, .int v_isEmpty, .int v_came, .int v_there, .int v_halves, .ref h_this_number, .ref h_this_set, .ref h_this_constant, .int v_rules, .ref h_this_ruleKind, .ref h_this_ruleBit, .ref h_this_ruleOther, .int v_alone, .int v_halfBits, .ref h_this_oldSet, .ref h_this_oldNumber, .ref h_this_allSets, .ref h_this_allNumbers, .int v_allMany, .ref h_this_root])), (h_this_number, .inl (cI, 15625, .inl v_number)), (h_this_allSets, .inl (cI, 2325, .inl v_allSets)), (h_this_allNumbers, .inl (cI, 2325, .inl v_allNumbers))] 33 [(0, .ref h_this), (1, .int x1), (2, .int x2), (3, .int x3), (4, .int x4)] [] := by
  unfold f_Md_listAll_l33 at hf
  refine z_iload C d_Md_listAll_33 4 rfl ?_
  refine z_iconst (v := 3) C d_Md_listAll_35 (by decide) ?_
  refine z_icmp_ge (tgt := 68) C d_Md_listAll_36 (by decide) (fun c_1 => ?_) (fun c_1 => ?_)
  · have hf := zif_pos c_1 hf
    refine z_lv [0, 1, 2] rfl ?_
    cases hf
    exact hK
  · have hf := zif_neg c_1 hf
    refine z_iload_n C d_Md_listAll_39 rfl 3 rfl ?_
    refine z_bipush (v := 25) C d_Md_listAll_40 (by decide) ?_
    refine z_irem C d_Md_listAll_42 (by decide) ?_
    refine z_bipush (v := 24) C d_Md_listAll_43 (by decide) ?_
    refine z_icmp_ge (tgt := 57) C d_Md_listAll_45 (by decide) (fun c_2 => ?_) (fun c_2 => ?_)
    · have hf := zif_pos c_2 hf
      refine z_iload_n C d_Md_listAll_57 rfl 3 rfl ?_
      refine z_bipush (v := 25) C d_Md_listAll_58 (by decide) ?_
      refine z_idiv C d_Md_listAll_60 (by decide) ?_
      refine z_topi (fun y_3 ey_3 => ?_)
      have hf := zlet_at ey_3 hf
      refine z_istore_n (lv' := [(3, .int y_3), (0, .ref h_this), (1, .int x1), (2, .int x2), (4, .int x4)]) C d_Md_listAll_61 rfl (by decide) rfl ?_
      obtain ⟨y_4, ey_4⟩ : ∃ y : Int32, y = x4 + 1 := ⟨_, rfl⟩
      have hf := zlet_at ey_4 hf
      refine z_iinc (v := y_4) (lv' := [(4, .int y_4), (3, .int y_3), (0, .ref h_this), (1, .int x1), (2, .int x2)]) C d_Md_listAll_62 (k := 4) rfl (by rw [ey_4]; rfl) (by decide) rfl ?_
      refine z_goto (tgt := 33) C d_Md_listAll_65 (by decide) ?_
      refine z_lv [2, 3, 4, 1, 0] rfl ?_
      cases hf
      exact hK
    · have hf := zif_neg c_2 hf
      refine z_iload_n C d_Md_listAll_48 rfl 2 rfl ?_
      refine z_iconst (v := 1) C d_Md_listAll_49 (by decide) ?_
      refine z_iload_n C d_Md_listAll_50 rfl 3 rfl ?_
      refine z_bipush (v := 25) C d_Md_listAll_51 (by decide) ?_
      refine z_irem C d_Md_listAll_53 (by decide) ?_
      refine z_ishl C d_Md_listAll_54 ?_
      refine z_ior C d_Md_listAll_55 ?_
      refine z_topi (fun y_5 ey_5 => ?_)
      have hf := zlet_at ey_5 hf
      refine z_istore_n (lv' := [(2, .int y_5), (0, .ref h_this), (1, .int x1), (3, .int x3), (4, .int x4)]) C d_Md_listAll_56 rfl (by decide) rfl ?_
      refine z_iload_n C d_Md_listAll_57 rfl 3 rfl ?_
      refine z_bipush (v := 25) C d_Md_listAll_58 (by decide) ?_
      refine z_idiv C d_Md_listAll_60 (by decide) ?_
      refine z_topi (fun y_6 ey_6 => ?_)
      have hf := zlet_at ey_6 hf
      refine z_istore_n (lv' := [(3, .int y_6), (2, .int y_5), (0, .ref h_this), (1, .int x1), (4, .int x4)]) C d_Md_listAll_61 rfl (by decide) rfl ?_
      obtain ⟨y_7, ey_7⟩ : ∃ y : Int32, y = x4 + 1 := ⟨_, rfl⟩
      have hf := zlet_at ey_7 hf
      refine z_iinc (v := y_7) (lv' := [(4, .int y_7), (3, .int y_6), (2, .int y_5), (0, .ref h_this), (1, .int x1)]) C d_Md_listAll_62 (k := 4) rfl (by rw [ey_7]; rfl) (by decide) rfl ?_
      refine z_goto (tgt := 33) C d_Md_listAll_65 (by decide) ?_
      refine z_lv [3, 4, 2, 1, 0] rfl ?_
      cases hf
      exact hK
theorem k_Md_listAll_l33_run {p : Program} {l : Launch} {e : Env} {s : State} {m : MethodId} {args : Array Value} {below : List Frame} {meth : Method} {c : Code} {D : va_G} {cI cL : ClassId} {h_this h_this_number h_this_set h_this_constant h_this_ruleKind h_this_ruleBit h_this_ruleOther h_this_oldSet h_this_oldNumber h_this_allSets h_this_allNumbers h_this_root : Nat} {v_thrown v_wires v_isOpen v_isEmpty v_came v_there v_halves v_rules v_alone v_halfBits v_allMany o_allMany x1 x2 x3 x4 : Int32} {v_number v_allSets v_allNumbers o_allSets o_allNumbers : Nat → Int32} (C : zC p s m args meth c b_Md_listAll 5 R_Md D vwCl [(cI, .int), (cL, .long)] (zA [h_this, h_this_number, h_this_allSets, h_this_allNumbers] s.heap.size)) (hr : meth.sig.returnType = none) {o0 : Int32} (hf : zloop (fun q => f_Md_listAll_l33 x1 v_allMany v_number v_allSets v_allNumbers q.1 q.2.1 q.2.2) zF (x2, x3, x4) = some o0) (hK : ZV p l e rm_Md_listAll s m args below meth c 5 D (none) [(h_this, .inr (5, [.int v_thrown, .int v_wires, .int v_isOpen, .int v_isEmpty, .int v_came, .int v_there, .int v_halves, .ref h_this_number, .ref h_this_set, .ref h_this_constant, .int v_rules, .ref h_this_ruleKind, .ref h_this_ruleBit, .ref h_this_ruleOther, .int v_alone, .int v_halfBits, .ref h_this_oldSet, .ref h_this_oldNumber, .ref h_this_allSets, .ref h_this_allNumbers, .int o_allMany, .ref h_this_root])), (h_this_number, .inl (cI, 15625, .inl v_number)), (h_this_allSets, .inl (cI, 2325, .inl o_allSets)), (h_this_allNumbers, .inl (cI, 2325, .inl o_allNumbers))] [h_this, h_this_number, h_this_allSets, h_this_allNumbers] [(h_this, .inr (5, [.int v_thrown, .int v_wires, .int v_isOpen, .int v_isEmpty, .int v_came, .int v_there, .int v_halves, .ref h_this_number, .ref h_this_set, .ref h_this_constant, .int v_rules, .ref h_this_ruleKind, .ref h_this_ruleBit, .ref h_this_ruleOther, .int v_alone, .int v_halfBits, .ref h_this_oldSet, .ref h_this_oldNumber, .ref h_this_allSets, .ref h_this_allNumbers, .int v_allMany, .ref h_this_root])), (h_this_number, .inl (cI, 15625, .inl v_number)), (h_this_allSets, .inl (cI, 2325, .inl v_allSets)), (h_this_allNumbers, .inl (cI, 2325, .inl v_allNumbers))] 68 [(0, .ref h_this), (1, .int x1), (2, .int o0)] []) : ZV p l e rm_Md_listAll s m args below meth c 5 D (none) [(h_this, .inr (5, [.int v_thrown, .int v_wires, .int v_isOpen, .int v_isEmpty, .int v_came, .int v_there, .int v_halves, .ref h_this_number, .ref h_this_set, .ref h_this_constant, .int v_rules, .ref h_this_ruleKind, .ref h_this_ruleBit, .ref h_this_ruleOther, .int v_alone, .int v_halfBits, .ref h_this_oldSet, .ref h_this_oldNumber, .ref h_this_allSets, .ref h_this_allNumbers, .int o_allMany, .ref h_this_root])), (h_this_number, .inl (cI, 15625, .inl v_number)), (h_this_allSets, .inl (cI, 2325, .inl o_allSets)), (h_this_allNumbers, .inl (cI, 2325, .inl o_allNumbers))] [h_this, h_this_number, h_this_allSets, h_this_allNumbers] [(h_this, .inr (5, [.int v_thrown, .int v_wires, .int v_isOpen, .int v_isEmpty, .int v_came, .int v_there, .int v_halves, .ref h_this_number, .ref h_this_set, .ref h_this_constant, .int v_rules, .ref h_this_ruleKind, .ref h_this_ruleBit, .ref h_this_ruleOther, .int v_alone, .int v_halfBits, .ref h_this_oldSet, .ref h_this_oldNumber, .ref h_this_allSets, .ref h_this_allNumbers, .int v_allMany, .ref h_this_root])), (h_this_number, .inl (cI, 15625, .inl v_number)), (h_this_allSets, .inl (cI, 2325, .inl v_allSets)), (h_this_allNumbers, .inl (cI, 2325, .inl v_allNumbers))] 33 [(0, .ref h_this), (1, .int x1), (2, .int x2), (3, .int x3), (4, .int x4)] [] :=
  zloop_run (P := fun q => ZV p l e rm_Md_listAll s m args below meth c 5 D (none) [(h_this, .inr (5, [.int v_thrown, .int v_wires, .int v_isOpen, .int v_isEmpty, .int v_came, .int v_there, .int v_halves, .ref h_this_number, .ref h_this_set, .ref h_this_constant, .int v_rules, .ref h_this_ruleKind, .ref h_this_ruleBit, .ref h_this_ruleOther, .int v_alone, .int v_halfBits, .ref h_this_oldSet, .ref h_this_oldNumber, .ref h_this_allSets, .ref h_this_allNumbers, .int o_allMany, .ref h_this_root])), (h_this_number, .inl (cI, 15625, .inl v_number)), (h_this_allSets, .inl (cI, 2325, .inl o_allSets)), (h_this_allNumbers, .inl (cI, 2325, .inl o_allNumbers))] [h_this, h_this_number, h_this_allSets, h_this_allNumbers] [(h_this, .inr (5, [.int v_thrown, .int v_wires, .int v_isOpen, .int v_isEmpty, .int v_came, .int v_there, .int v_halves, .ref h_this_number, .ref h_this_set, .ref h_this_constant, .int v_rules, .ref h_this_ruleKind, .ref h_this_ruleBit, .ref h_this_ruleOther, .int v_alone, .int v_halfBits, .ref h_this_oldSet, .ref h_this_oldNumber, .ref h_this_allSets, .ref h_this_allNumbers, .int v_allMany, .ref h_this_root])), (h_this_number, .inl (cI, 15625, .inl v_number)), (h_this_allSets, .inl (cI, 2325, .inl v_allSets)), (h_this_allNumbers, .inl (cI, 2325, .inl v_allNumbers))] 33 [(0, .ref h_this), (1, .int x1), (2, .int q.1), (3, .int q.2.1), (4, .int q.2.2)] []) (K := (fun q => ZV p l e rm_Md_listAll s m args below meth c 5 D (none) [(h_this, .inr (5, [.int v_thrown, .int v_wires, .int v_isOpen, .int v_isEmpty, .int v_came, .int v_there, .int v_halves, .ref h_this_number, .ref h_this_set, .ref h_this_constant, .int v_rules, .ref h_this_ruleKind, .ref h_this_ruleBit, .ref h_this_ruleOther, .int v_alone, .int v_halfBits, .ref h_this_oldSet, .ref h_this_oldNumber, .ref h_this_allSets, .ref h_this_allNumbers, .int o_allMany, .ref h_this_root])), (h_this_number, .inl (cI, 15625, .inl v_number)), (h_this_allSets, .inl (cI, 2325, .inl o_allSets)), (h_this_allNumbers, .inl (cI, 2325, .inl o_allNumbers))] [h_this, h_this_number, h_this_allSets, h_this_allNumbers] [(h_this, .inr (5, [.int v_thrown, .int v_wires, .int v_isOpen, .int v_isEmpty, .int v_came, .int v_there, .int v_halves, .ref h_this_number, .ref h_this_set, .ref h_this_constant, .int v_rules, .ref h_this_ruleKind, .ref h_this_ruleBit, .ref h_this_ruleOther, .int v_alone, .int v_halfBits, .ref h_this_oldSet, .ref h_this_oldNumber, .ref h_this_allSets, .ref h_this_allNumbers, .int v_allMany, .ref h_this_root])), (h_this_number, .inl (cI, 15625, .inl v_number)), (h_this_allSets, .inl (cI, 2325, .inl v_allSets)), (h_this_allNumbers, .inl (cI, 2325, .inl v_allNumbers))] 68 [(0, .ref h_this), (1, .int x1), (2, .int q)] [])) (fun q z hz hK => k_Md_listAll_l33 C hr hz hK) zF _ (o0) hf hK
def f_Md_listAll_l7 (v_number : Nat → Int32) (x1 : Int32) (v_allMany : Int32) (v_allSets : Nat → Int32) (v_allNumbers : Nat → Int32) : Option ((Int32 × Int32 × (Nat → Int32) × (Nat → Int32)) ⊕ (Int32 × (Nat → Int32) × (Nat → Int32))) :=
  if (15625 : Int32) ≤ x1 then (
    some (.inr (v_allMany, v_allSets, v_allNumbers)))
  else (
    if x1 < 0 ∨ 15625 ≤ x1.toNatClampNeg then none else
    if (v_number x1.toNatClampNeg) = 0 then (
      zlet (x1 + 1) fun y_4 =>
      some (.inl (y_4, v_allMany, v_allSets, v_allNumbers)))
    else (
      zb1 (zloop (fun q => f_Md_listAll_l33 x1 v_allMany v_number v_allSets v_allNumbers q.1 q.2.1 q.2.2) zF ((0 : Int32), x1, (0 : Int32))) fun y_5 =>
      if v_allMany < 0 ∨ 2325 ≤ v_allMany.toNatClampNeg then none else
      zlet (upd v_allSets v_allMany.toNatClampNeg y_5) fun u_8 =>
      if x1 < 0 ∨ 15625 ≤ x1.toNatClampNeg then none else
      if v_allMany < 0 ∨ 2325 ≤ v_allMany.toNatClampNeg then none else
      zlet (upd v_allNumbers v_allMany.toNatClampNeg (v_number x1.toNatClampNeg)) fun u_11 =>
      zlet (v_allMany + (1 : Int32)) fun y_12 =>
      zlet (x1 + 1) fun y_13 =>
      some (.inl (y_13, y_12, u_8, u_11))))
set_option maxRecDepth 100000 in
set_option maxHeartbeats 4000000 in
theorem k_Md_listAll_l7 {p : Program} {l : Launch} {e : Env} {s : State} {m : MethodId} {args : Array Value} {below : List Frame} {meth : Method} {c : Code} {D : va_G} {cI cL : ClassId} {h_this h_this_number h_this_set h_this_constant h_this_ruleKind h_this_ruleBit h_this_ruleOther h_this_oldSet h_this_oldNumber h_this_allSets h_this_allNumbers h_this_root : Nat} {v_thrown v_wires v_isOpen v_isEmpty v_came v_there v_halves v_rules v_alone v_halfBits v_allMany o_allMany x1 : Int32} {v_number v_allSets v_allNumbers o_allSets o_allNumbers : Nat → Int32} (C : zC p s m args meth c b_Md_listAll 5 R_Md D vwCl [(cI, .int), (cL, .long)] (zA [h_this, h_this_number, h_this_allSets, h_this_allNumbers] s.heap.size)) (hr : meth.sig.returnType = none) {z : (Int32 × Int32 × (Nat → Int32) × (Nat → Int32)) ⊕ (Int32 × (Nat → Int32) × (Nat → Int32))} (hf : f_Md_listAll_l7 v_number x1 v_allMany v_allSets v_allNumbers = some z) (hK : zcase (fun q => ZV p l e rm_Md_listAll s m args below meth c 5 D (none) [(h_this, .inr (5, [.int v_thrown, .int v_wires, .int v_isOpen, .int v_isEmpty, .int v_came, .int v_there, .int v_halves, .ref h_this_number, .ref h_this_set, .ref h_this_constant, .int v_rules, .ref h_this_ruleKind, .ref h_this_ruleBit, .ref h_this_ruleOther, .int v_alone, .int v_halfBits, .ref h_this_oldSet, .ref h_this_oldNumber, .ref h_this_allSets, .ref h_this_allNumbers, .int o_allMany, .ref h_this_root])), (h_this_number, .inl (cI, 15625, .inl v_number)), (h_this_allSets, .inl (cI, 2325, .inl o_allSets)), (h_this_allNumbers, .inl (cI, 2325, .inl o_allNumbers))] [h_this, h_this_number, h_this_allSets, h_this_allNumbers] [(h_this, .inr (5, [.int v_thrown, .int v_wires, .int v_isOpen, .int v_isEmpty, .int v_came, .int v_there, .int v_halves, .ref h_this_number, .ref h_this_set, .ref h_this_constant, .int v_rules, .ref h_this_ruleKind, .ref h_this_ruleBit, .ref h_this_ruleOther, .int v_alone, .int v_halfBits, .ref h_this_oldSet, .ref h_this_oldNumber, .ref h_this_allSets, .ref h_this_allNumbers, .int q.2.1, .ref h_this_root])), (h_this_number, .inl (cI, 15625, .inl v_number)), (h_this_allSets, .inl (cI, 2325, .inl q.2.2.1)), (h_this_allNumbers, .inl (cI, 2325, .inl q.2.2.2))] 7 [(0, .ref h_this), (1, .int q.1)] []) (fun q => ZV p l e rm_Md_listAll s m args below meth c 5 D (none) [(h_this, .inr (5, [.int v_thrown, .int v_wires, .int v_isOpen, .int v_isEmpty, .int v_came, .int v_there, .int v_halves, .ref h_this_number, .ref h_this_set, .ref h_this_constant, .int v_rules, .ref h_this_ruleKind, .ref h_this_ruleBit, .ref h_this_ruleOther, .int v_alone, .int v_halfBits, .ref h_this_oldSet, .ref h_this_oldNumber, .ref h_this_allSets, .ref h_this_allNumbers, .int o_allMany, .ref h_this_root])), (h_this_number, .inl (cI, 15625, .inl v_number)), (h_this_allSets, .inl (cI, 2325, .inl o_allSets)), (h_this_allNumbers, .inl (cI, 2325, .inl o_allNumbers))] [h_this, h_this_number, h_this_allSets, h_this_allNumbers] [(h_this, .inr (5, [.int v_thrown, .int v_wires, .int v_isOpen, .int v_isEmpty, .int v_came, .int v_there, .int v_halves, .ref h_this_number, .ref h_this_set, .ref h_this_constant, .int v_rules, .ref h_this_ruleKind, .ref h_this_ruleBit, .ref h_this_ruleOther, .int v_alone, .int v_halfBits, .ref h_this_oldSet, .ref h_this_oldNumber, .ref h_this_allSets, .ref h_this_allNumbers, .int q.1, .ref h_this_root])), (h_this_number, .inl (cI, 15625, .inl v_number)), (h_this_allSets, .inl (cI, 2325, .inl q.2.1)), (h_this_allNumbers, .inl (cI, 2325, .inl q.2.2))] 109 [] []) z) : ZV p l e rm_Md_listAll s m args below meth c 5 D (none) [(h_this, .inr (5, [.int v_thrown, .int v_wires, .int v_isOpen, .int v_isEmpty, .int v_came, .int v_there, .int v_halves, .ref h_this_number, .ref h_this_set, .ref h_this_constant, .int v_rules, .ref h_this_ruleKind, .ref h_this_ruleBit, .ref h_this_ruleOther, .int v_alone, .int v_halfBits, .ref h_this_oldSet, .ref h_this_oldNumber, .ref h_this_allSets, .ref h_this_allNumbers, .int o_allMany, .ref h_this_root])), (h_this_number, .inl (cI, 15625, .inl v_number)), (h_this_allSets, .inl (cI, 2325, .inl o_allSets)), (h_this_allNumbers, .inl (cI, 2325, .inl o_allNumbers))] [h_this, h_this_number, h_this_allSets, h_this_allNumbers] [(h_this, .inr (5, [.int v_thrown, .int v_wires, .int v_isOpen, .int v_isEmpty, .int v_came, .int v_there, .int v_halves, .ref h_this_number, .ref h_this_set, .ref h_this_constant, .int v_rules, .ref h_this_ruleKind, .ref h_this_ruleBit, .ref h_this_ruleOther, .int v_alone, .int v_halfBits, .ref h_this_oldSet, .ref h_this_oldNumber, .ref h_this_allSets, .ref h_this_allNumbers, .int v_allMany, .ref h_this_root])), (h_this_number, .inl (cI, 15625, .inl v_number)), (h_this_allSets, .inl (cI, 2325, .inl v_allSets)), (h_this_allNumbers, .inl (cI, 2325, .inl v_allNumbers))] 7 [(0, .ref h_this), (1, .int x1)] [] := by
  unfold f_Md_listAll_l7 at hf
  refine z_iload_n C d_Md_listAll_7 rfl 1 rfl ?_
  refine z_sipush (v := 15625) C d_Md_listAll_8 (by decide) ?_
  refine z_icmp_ge (tgt := 109) C d_Md_listAll_11 (by decide) (fun c_1 => ?_) (fun c_1 => ?_)
  · have hf := zif_pos c_1 hf
    refine z_lv [] rfl ?_
    cases hf
    exact hK
  · have hf := zif_neg c_1 hf
    refine z_aload_n C d_Md_listAll_14 rfl 0 rfl ?_
    refine z_get C iw_Md 0 rfl rfl 7 (by decide) zw_505 rfl d_Md_listAll_15 ?_
    refine z_iload_n C d_Md_listAll_18 rfl 1 rfl ?_
    obtain ⟨g_2, hf⟩ := zguard hf
    refine z_iald C 1 0 rfl rfl g_2 d_Md_listAll_19 ?_
    refine z_if_ne (tgt := 26) C d_Md_listAll_20 (by decide) (fun c_3 => ?_) (fun c_3 => ?_)
    · have hf := zif_neg c_3 hf
      refine z_iconst (v := 0) C d_Md_listAll_26 (by decide) ?_
      refine z_istore_n (lv' := [(2, .int (0 : Int32)), (0, .ref h_this), (1, .int x1)]) C d_Md_listAll_27 rfl (by decide) rfl ?_
      refine z_iload_n C d_Md_listAll_28 rfl 2 rfl ?_
      refine z_istore_n (lv' := [(3, .int x1), (2, .int (0 : Int32)), (0, .ref h_this), (1, .int x1)]) C d_Md_listAll_29 rfl (by decide) rfl ?_
      refine z_iconst (v := 0) C d_Md_listAll_30 (by decide) ?_
      refine z_istore (lv' := [(4, .int (0 : Int32)), (3, .int x1), (2, .int (0 : Int32)), (0, .ref h_this), (1, .int x1)]) C d_Md_listAll_31 (by decide) rfl ?_
      refine z_lv [3, 4, 2, 1, 0] rfl ?_
      obtain ⟨y_5, h_6, hf⟩ := zb1_elim hf
      refine k_Md_listAll_l33_run C hr h_6 ?_
      refine z_aload_n C d_Md_listAll_68 rfl 0 rfl ?_
      refine z_get C iw_Md 0 rfl rfl 18 (by decide) zw_516 rfl d_Md_listAll_69 ?_
      refine z_aload_n C d_Md_listAll_72 rfl 0 rfl ?_
      refine z_get C iw_Md 0 rfl rfl 20 (by decide) zw_518 rfl d_Md_listAll_73 ?_
      refine z_iload_n C d_Md_listAll_76 rfl 2 rfl ?_
      obtain ⟨g_7, hf⟩ := zguard hf
      obtain ⟨u_8, eu_8⟩ : ∃ u : Nat → Int32, u = upd v_allSets v_allMany.toNatClampNeg y_5 := ⟨_, rfl⟩
      have hf := zlet_at eu_8 hf
      refine z_iast (ws' := [(h_this, .inr (5, [.int v_thrown, .int v_wires, .int v_isOpen, .int v_isEmpty, .int v_came, .int v_there, .int v_halves, .ref h_this_number, .ref h_this_set, .ref h_this_constant, .int v_rules, .ref h_this_ruleKind, .ref h_this_ruleBit, .ref h_this_ruleOther, .int v_alone, .int v_halfBits, .ref h_this_oldSet, .ref h_this_oldNumber, .ref h_this_allSets, .ref h_this_allNumbers, .int v_allMany, .ref h_this_root])), (h_this_number, .inl (cI, 15625, .inl v_number)), (h_this_allSets, .inl (cI, 2325, .inl u_8)), (h_this_allNumbers, .inl (cI, 2325, .inl v_allNumbers))]) C 2 0 rfl rfl g_7 d_Md_listAll_77 (by rw [eu_8]; rfl) ?_
      refine z_aload_n C d_Md_listAll_78 rfl 0 rfl ?_
      refine z_get C iw_Md 0 rfl rfl 19 (by decide) zw_517 rfl d_Md_listAll_79 ?_
      refine z_aload_n C d_Md_listAll_82 rfl 0 rfl ?_
      refine z_get C iw_Md 0 rfl rfl 20 (by decide) zw_518 rfl d_Md_listAll_83 ?_
      refine z_aload_n C d_Md_listAll_86 rfl 0 rfl ?_
      refine z_get C iw_Md 0 rfl rfl 7 (by decide) zw_505 rfl d_Md_listAll_87 ?_
      refine z_iload_n C d_Md_listAll_90 rfl 1 rfl ?_
      obtain ⟨g_9, hf⟩ := zguard hf
      refine z_iald C 1 0 rfl rfl g_9 d_Md_listAll_91 ?_
      obtain ⟨g_10, hf⟩ := zguard hf
      obtain ⟨u_11, eu_11⟩ : ∃ u : Nat → Int32, u = upd v_allNumbers v_allMany.toNatClampNeg (v_number x1.toNatClampNeg) := ⟨_, rfl⟩
      have hf := zlet_at eu_11 hf
      refine z_iast (ws' := [(h_this, .inr (5, [.int v_thrown, .int v_wires, .int v_isOpen, .int v_isEmpty, .int v_came, .int v_there, .int v_halves, .ref h_this_number, .ref h_this_set, .ref h_this_constant, .int v_rules, .ref h_this_ruleKind, .ref h_this_ruleBit, .ref h_this_ruleOther, .int v_alone, .int v_halfBits, .ref h_this_oldSet, .ref h_this_oldNumber, .ref h_this_allSets, .ref h_this_allNumbers, .int v_allMany, .ref h_this_root])), (h_this_number, .inl (cI, 15625, .inl v_number)), (h_this_allSets, .inl (cI, 2325, .inl u_8)), (h_this_allNumbers, .inl (cI, 2325, .inl u_11))]) C 3 0 rfl rfl g_10 d_Md_listAll_92 (by rw [eu_11]; rfl) ?_
      refine z_aload_n C d_Md_listAll_93 rfl 0 rfl ?_
      refine z_dup C d_Md_listAll_94 rfl ?_
      refine z_get C iw_Md 0 rfl rfl 20 (by decide) zw_518 rfl d_Md_listAll_95 ?_
      refine z_iconst (v := 1) C d_Md_listAll_98 (by decide) ?_
      refine z_iadd C d_Md_listAll_99 ?_
      refine z_topi (fun y_12 ey_12 => ?_)
      have hf := zlet_at ey_12 hf
      refine z_put (ws' := [(h_this, .inr (5, [.int v_thrown, .int v_wires, .int v_isOpen, .int v_isEmpty, .int v_came, .int v_there, .int v_halves, .ref h_this_number, .ref h_this_set, .ref h_this_constant, .int v_rules, .ref h_this_ruleKind, .ref h_this_ruleBit, .ref h_this_ruleOther, .int v_alone, .int v_halfBits, .ref h_this_oldSet, .ref h_this_oldNumber, .ref h_this_allSets, .ref h_this_allNumbers, .int y_12, .ref h_this_root])), (h_this_number, .inl (cI, 15625, .inl v_number)), (h_this_allSets, .inl (cI, 2325, .inl u_8)), (h_this_allNumbers, .inl (cI, 2325, .inl u_11))]) C iw_Md t_Md t_Md_ok n_Md 0 rfl rfl 20 (by decide) zw_518 rfl (ty := .int) rfl rfl rfl (by simp) d_Md_listAll_100 rfl ?_
      obtain ⟨y_13, ey_13⟩ : ∃ y : Int32, y = x1 + 1 := ⟨_, rfl⟩
      have hf := zlet_at ey_13 hf
      refine z_iinc (v := y_13) (lv' := [(1, .int y_13), (0, .ref h_this), (2, .int y_5)]) C d_Md_listAll_103 (k := 1) rfl (by rw [ey_13]; rfl) (by decide) rfl ?_
      refine z_goto (tgt := 7) C d_Md_listAll_106 (by decide) ?_
      refine z_lv [1, 0] rfl ?_
      cases hf
      exact hK
    · have hf := zif_pos c_3 hf
      refine z_goto (tgt := 103) C d_Md_listAll_23 (by decide) ?_
      obtain ⟨y_4, ey_4⟩ : ∃ y : Int32, y = x1 + 1 := ⟨_, rfl⟩
      have hf := zlet_at ey_4 hf
      refine z_iinc (v := y_4) (lv' := [(1, .int y_4), (0, .ref h_this)]) C d_Md_listAll_103 (k := 1) rfl (by rw [ey_4]; rfl) (by decide) rfl ?_
      refine z_goto (tgt := 7) C d_Md_listAll_106 (by decide) ?_
      refine z_lv [1, 0] rfl ?_
      cases hf
      exact hK
theorem k_Md_listAll_l7_run {p : Program} {l : Launch} {e : Env} {s : State} {m : MethodId} {args : Array Value} {below : List Frame} {meth : Method} {c : Code} {D : va_G} {cI cL : ClassId} {h_this h_this_number h_this_set h_this_constant h_this_ruleKind h_this_ruleBit h_this_ruleOther h_this_oldSet h_this_oldNumber h_this_allSets h_this_allNumbers h_this_root : Nat} {v_thrown v_wires v_isOpen v_isEmpty v_came v_there v_halves v_rules v_alone v_halfBits v_allMany o_allMany x1 : Int32} {v_number v_allSets v_allNumbers o_allSets o_allNumbers : Nat → Int32} (C : zC p s m args meth c b_Md_listAll 5 R_Md D vwCl [(cI, .int), (cL, .long)] (zA [h_this, h_this_number, h_this_allSets, h_this_allNumbers] s.heap.size)) (hr : meth.sig.returnType = none) {o0 : Int32} {o1 : Nat → Int32} {o2 : Nat → Int32} (hf : zloop (fun q => f_Md_listAll_l7 v_number q.1 q.2.1 q.2.2.1 q.2.2.2) zF (x1, v_allMany, v_allSets, v_allNumbers) = some (o0, o1, o2)) (hK : ZV p l e rm_Md_listAll s m args below meth c 5 D (none) [(h_this, .inr (5, [.int v_thrown, .int v_wires, .int v_isOpen, .int v_isEmpty, .int v_came, .int v_there, .int v_halves, .ref h_this_number, .ref h_this_set, .ref h_this_constant, .int v_rules, .ref h_this_ruleKind, .ref h_this_ruleBit, .ref h_this_ruleOther, .int v_alone, .int v_halfBits, .ref h_this_oldSet, .ref h_this_oldNumber, .ref h_this_allSets, .ref h_this_allNumbers, .int o_allMany, .ref h_this_root])), (h_this_number, .inl (cI, 15625, .inl v_number)), (h_this_allSets, .inl (cI, 2325, .inl o_allSets)), (h_this_allNumbers, .inl (cI, 2325, .inl o_allNumbers))] [h_this, h_this_number, h_this_allSets, h_this_allNumbers] [(h_this, .inr (5, [.int v_thrown, .int v_wires, .int v_isOpen, .int v_isEmpty, .int v_came, .int v_there, .int v_halves, .ref h_this_number, .ref h_this_set, .ref h_this_constant, .int v_rules, .ref h_this_ruleKind, .ref h_this_ruleBit, .ref h_this_ruleOther, .int v_alone, .int v_halfBits, .ref h_this_oldSet, .ref h_this_oldNumber, .ref h_this_allSets, .ref h_this_allNumbers, .int o0, .ref h_this_root])), (h_this_number, .inl (cI, 15625, .inl v_number)), (h_this_allSets, .inl (cI, 2325, .inl o1)), (h_this_allNumbers, .inl (cI, 2325, .inl o2))] 109 [] []) : ZV p l e rm_Md_listAll s m args below meth c 5 D (none) [(h_this, .inr (5, [.int v_thrown, .int v_wires, .int v_isOpen, .int v_isEmpty, .int v_came, .int v_there, .int v_halves, .ref h_this_number, .ref h_this_set, .ref h_this_constant, .int v_rules, .ref h_this_ruleKind, .ref h_this_ruleBit, .ref h_this_ruleOther, .int v_alone, .int v_halfBits, .ref h_this_oldSet, .ref h_this_oldNumber, .ref h_this_allSets, .ref h_this_allNumbers, .int o_allMany, .ref h_this_root])), (h_this_number, .inl (cI, 15625, .inl v_number)), (h_this_allSets, .inl (cI, 2325, .inl o_allSets)), (h_this_allNumbers, .inl (cI, 2325, .inl o_allNumbers))] [h_this, h_this_number, h_this_allSets, h_this_allNumbers] [(h_this, .inr (5, [.int v_thrown, .int v_wires, .int v_isOpen, .int v_isEmpty, .int v_came, .int v_there, .int v_halves, .ref h_this_number, .ref h_this_set, .ref h_this_constant, .int v_rules, .ref h_this_ruleKind, .ref h_this_ruleBit, .ref h_this_ruleOther, .int v_alone, .int v_halfBits, .ref h_this_oldSet, .ref h_this_oldNumber, .ref h_this_allSets, .ref h_this_allNumbers, .int v_allMany, .ref h_this_root])), (h_this_number, .inl (cI, 15625, .inl v_number)), (h_this_allSets, .inl (cI, 2325, .inl v_allSets)), (h_this_allNumbers, .inl (cI, 2325, .inl v_allNumbers))] 7 [(0, .ref h_this), (1, .int x1)] [] :=
  zloop_run (P := fun q => ZV p l e rm_Md_listAll s m args below meth c 5 D (none) [(h_this, .inr (5, [.int v_thrown, .int v_wires, .int v_isOpen, .int v_isEmpty, .int v_came, .int v_there, .int v_halves, .ref h_this_number, .ref h_this_set, .ref h_this_constant, .int v_rules, .ref h_this_ruleKind, .ref h_this_ruleBit, .ref h_this_ruleOther, .int v_alone, .int v_halfBits, .ref h_this_oldSet, .ref h_this_oldNumber, .ref h_this_allSets, .ref h_this_allNumbers, .int o_allMany, .ref h_this_root])), (h_this_number, .inl (cI, 15625, .inl v_number)), (h_this_allSets, .inl (cI, 2325, .inl o_allSets)), (h_this_allNumbers, .inl (cI, 2325, .inl o_allNumbers))] [h_this, h_this_number, h_this_allSets, h_this_allNumbers] [(h_this, .inr (5, [.int v_thrown, .int v_wires, .int v_isOpen, .int v_isEmpty, .int v_came, .int v_there, .int v_halves, .ref h_this_number, .ref h_this_set, .ref h_this_constant, .int v_rules, .ref h_this_ruleKind, .ref h_this_ruleBit, .ref h_this_ruleOther, .int v_alone, .int v_halfBits, .ref h_this_oldSet, .ref h_this_oldNumber, .ref h_this_allSets, .ref h_this_allNumbers, .int q.2.1, .ref h_this_root])), (h_this_number, .inl (cI, 15625, .inl v_number)), (h_this_allSets, .inl (cI, 2325, .inl q.2.2.1)), (h_this_allNumbers, .inl (cI, 2325, .inl q.2.2.2))] 7 [(0, .ref h_this), (1, .int q.1)] []) (K := (fun q => ZV p l e rm_Md_listAll s m args below meth c 5 D (none) [(h_this, .inr (5, [.int v_thrown, .int v_wires, .int v_isOpen, .int v_isEmpty, .int v_came, .int v_there, .int v_halves, .ref h_this_number, .ref h_this_set, .ref h_this_constant, .int v_rules, .ref h_this_ruleKind, .ref h_this_ruleBit, .ref h_this_ruleOther, .int v_alone, .int v_halfBits, .ref h_this_oldSet, .ref h_this_oldNumber, .ref h_this_allSets, .ref h_this_allNumbers, .int o_allMany, .ref h_this_root])), (h_this_number, .inl (cI, 15625, .inl v_number)), (h_this_allSets, .inl (cI, 2325, .inl o_allSets)), (h_this_allNumbers, .inl (cI, 2325, .inl o_allNumbers))] [h_this, h_this_number, h_this_allSets, h_this_allNumbers] [(h_this, .inr (5, [.int v_thrown, .int v_wires, .int v_isOpen, .int v_isEmpty, .int v_came, .int v_there, .int v_halves, .ref h_this_number, .ref h_this_set, .ref h_this_constant, .int v_rules, .ref h_this_ruleKind, .ref h_this_ruleBit, .ref h_this_ruleOther, .int v_alone, .int v_halfBits, .ref h_this_oldSet, .ref h_this_oldNumber, .ref h_this_allSets, .ref h_this_allNumbers, .int q.1, .ref h_this_root])), (h_this_number, .inl (cI, 15625, .inl v_number)), (h_this_allSets, .inl (cI, 2325, .inl q.2.1)), (h_this_allNumbers, .inl (cI, 2325, .inl q.2.2))] 109 [] [])) (fun q z hz hK => k_Md_listAll_l7 C hr hz hK) zF _ ((o0, o1, o2)) hf hK
/-- PathSumsModel.listAll()V -/
def f_Md_listAll (v_allMany : Int32) (v_number : Nat → Int32) (v_allSets : Nat → Int32) (v_allNumbers : Nat → Int32) : Option (Int32 × (Nat → Int32) × (Nat → Int32)) :=
  zb3 (zloop (fun q => f_Md_listAll_l7 v_number q.1 q.2.1 q.2.2.1 q.2.2.2) zF ((0 : Int32), (0 : Int32), v_allSets, v_allNumbers)) fun q_1 q_2 q_3 =>
  some (q_1, q_2, q_3)
set_option maxRecDepth 100000 in
set_option maxHeartbeats 4000000 in
theorem k_Md_listAll {p : Program} {l : Launch} {e : Env} {s : State} {m : MethodId} {args : Array Value} {below : List Frame} {meth : Method} {c : Code} {D : va_G} {cI cL : ClassId} {h_this h_this_number h_this_set h_this_constant h_this_ruleKind h_this_ruleBit h_this_ruleOther h_this_oldSet h_this_oldNumber h_this_allSets h_this_allNumbers h_this_root : Nat} {v_thrown v_wires v_isOpen v_isEmpty v_came v_there v_halves v_rules v_alone v_halfBits v_allMany o_allMany : Int32} {v_number v_allSets v_allNumbers o_allSets o_allNumbers : Nat → Int32} (C : zC p s m args meth c b_Md_listAll 5 R_Md D vwCl [(cI, .int), (cL, .long)] (zA [h_this, h_this_number, h_this_allSets, h_this_allNumbers] s.heap.size)) (hr : meth.sig.returnType = none) (hf : f_Md_listAll v_allMany v_number v_allSets v_allNumbers = some (o_allMany, o_allSets, o_allNumbers)) : ZV p l e rm_Md_listAll s m args below meth c 5 D (none) [(h_this, .inr (5, [.int v_thrown, .int v_wires, .int v_isOpen, .int v_isEmpty, .int v_came, .int v_there, .int v_halves, .ref h_this_number, .ref h_this_set, .ref h_this_constant, .int v_rules, .ref h_this_ruleKind, .ref h_this_ruleBit, .ref h_this_ruleOther, .int v_alone, .int v_halfBits, .ref h_this_oldSet, .ref h_this_oldNumber, .ref h_this_allSets, .ref h_this_allNumbers, .int o_allMany, .ref h_this_root])), (h_this_number, .inl (cI, 15625, .inl v_number)), (h_this_allSets, .inl (cI, 2325, .inl o_allSets)), (h_this_allNumbers, .inl (cI, 2325, .inl o_allNumbers))] [h_this, h_this_number, h_this_allSets, h_this_allNumbers] [(h_this, .inr (5, [.int v_thrown, .int v_wires, .int v_isOpen, .int v_isEmpty, .int v_came, .int v_there, .int v_halves, .ref h_this_number, .ref h_this_set, .ref h_this_constant, .int v_rules, .ref h_this_ruleKind, .ref h_this_ruleBit, .ref h_this_ruleOther, .int v_alone, .int v_halfBits, .ref h_this_oldSet, .ref h_this_oldNumber, .ref h_this_allSets, .ref h_this_allNumbers, .int v_allMany, .ref h_this_root])), (h_this_number, .inl (cI, 15625, .inl v_number)), (h_this_allSets, .inl (cI, 2325, .inl v_allSets)), (h_this_allNumbers, .inl (cI, 2325, .inl v_allNumbers))] 0 [(0, .ref h_this)] [] := by
  unfold f_Md_listAll at hf
  refine z_aload_n C d_Md_listAll_0 rfl 0 rfl ?_
  refine z_iconst (v := 0) C d_Md_listAll_1 (by decide) ?_
  refine z_put (ws' := [(h_this, .inr (5, [.int v_thrown, .int v_wires, .int v_isOpen, .int v_isEmpty, .int v_came, .int v_there, .int v_halves, .ref h_this_number, .ref h_this_set, .ref h_this_constant, .int v_rules, .ref h_this_ruleKind, .ref h_this_ruleBit, .ref h_this_ruleOther, .int v_alone, .int v_halfBits, .ref h_this_oldSet, .ref h_this_oldNumber, .ref h_this_allSets, .ref h_this_allNumbers, .int (0 : Int32), .ref h_this_root])), (h_this_number, .inl (cI, 15625, .inl v_number)), (h_this_allSets, .inl (cI, 2325, .inl v_allSets)), (h_this_allNumbers, .inl (cI, 2325, .inl v_allNumbers))]) C iw_Md t_Md t_Md_ok n_Md 0 rfl rfl 20 (by decide) zw_518 rfl (ty := .int) rfl rfl rfl (by simp) d_Md_listAll_2 rfl ?_
  refine z_iconst (v := 0) C d_Md_listAll_5 (by decide) ?_
  refine z_istore_n (lv' := [(1, .int (0 : Int32)), (0, .ref h_this)]) C d_Md_listAll_6 rfl (by decide) rfl ?_
  refine z_lv [1, 0] rfl ?_
  obtain ⟨q_1, q_2, q_3, h_4, hf⟩ := zb3_elim hf
  refine k_Md_listAll_l7_run C hr h_4 ?_
  cases hf
  exact z_vret C hr d_Md_listAll_109
theorem c_Md_listAll {l : Launch} {D : va_G} {cI cL : ClassId} {h_this h_this_number h_this_set h_this_constant h_this_ruleKind h_this_ruleBit h_this_ruleOther h_this_oldSet h_this_oldNumber h_this_allSets h_this_allNumbers h_this_root : Nat} {v_thrown v_wires v_isOpen v_isEmpty v_came v_there v_halves v_rules v_alone v_halfBits v_allMany o_allMany : Int32} {v_number v_allSets v_allNumbers o_allSets o_allNumbers : Nat → Int32} (hf : f_Md_listAll v_allMany v_number v_allSets v_allNumbers = some (o_allMany, o_allSets, o_allNumbers)) : zM l y_Md_listAll (Cond.code y_Md_listAll b_Md_listAll 5 none :: zT) rm_Md_listAll D vwCl [(cI, .int), (cL, .long)] [.ref h_this] [(h_this, .inr (5, [.int v_thrown, .int v_wires, .int v_isOpen, .int v_isEmpty, .int v_came, .int v_there, .int v_halves, .ref h_this_number, .ref h_this_set, .ref h_this_constant, .int v_rules, .ref h_this_ruleKind, .ref h_this_ruleBit, .ref h_this_ruleOther, .int v_alone, .int v_halfBits, .ref h_this_oldSet, .ref h_this_oldNumber, .ref h_this_allSets, .ref h_this_allNumbers, .int v_allMany, .ref h_this_root])), (h_this_number, .inl (cI, 15625, .inl v_number)), (h_this_allSets, .inl (cI, 2325, .inl v_allSets)), (h_this_allNumbers, .inl (cI, 2325, .inl v_allNumbers))] [(h_this, .inr (5, [.int v_thrown, .int v_wires, .int v_isOpen, .int v_isEmpty, .int v_came, .int v_there, .int v_halves, .ref h_this_number, .ref h_this_set, .ref h_this_constant, .int v_rules, .ref h_this_ruleKind, .ref h_this_ruleBit, .ref h_this_ruleOther, .int v_alone, .int v_halfBits, .ref h_this_oldSet, .ref h_this_oldNumber, .ref h_this_allSets, .ref h_this_allNumbers, .int o_allMany, .ref h_this_root])), (h_this_number, .inl (cI, 15625, .inl v_number)), (h_this_allSets, .inl (cI, 2325, .inl o_allSets)), (h_this_allNumbers, .inl (cI, 2325, .inl o_allNumbers))] (none) :=
  zM.intro (by decide) rfl (fun _ h => List.mem_cons_of_mem _ h) (Nat.le_of_ble_eq_true rfl) (fun _ _ _ _ _ _ _ C hr _ => k_Md_listAll C hr hf)
def rm_Md_parity : Room := { frames := 1, cells := 0, slots := 0, locals := 22 }
/-- PathSumsModel.parity(I)I -/
def f_Md_parity (x0 : Int32) : Option (Int32) :=
  zb1 (f_Md_count x0) fun r_2 =>
  some (r_2 &&& (1 : Int32))
set_option maxRecDepth 100000 in
set_option maxHeartbeats 4000000 in
theorem k_Md_parity {p : Program} {l : Launch} {e : Env} {s : State} {m : MethodId} {args : Array Value} {below : List Frame} {meth : Method} {c : Code} {D : va_G} {cI cL : ClassId} {rr x0 : Int32} (C : zC p s m args meth c b_Md_parity 1 R_Md D vwCl [(cI, .int), (cL, .long)] (zA [] s.heap.size)) (hr : meth.sig.returnType = some .int) (hf : f_Md_parity x0 = some rr) : ZV p l e rm_Md_parity s m args below meth c 1 D (some (.int rr)) [] [] [] 0 [(0, .int x0)] [] := by
  unfold f_Md_parity at hf
  refine z_iload_n C d_Md_parity_0 rfl 0 rfl ?_
  obtain ⟨r_2, h_1, hf⟩ := zb1_elim hf
  refine z_callS (As := [.int x0]) (rest := []) (ws' := []) C (c_Md_count h_1) mi_Md_count zw_605 (by decide) [] (by decide) rfl rfl rfl rfl rfl (by decide) ⟨Nat.zero_le _, Nat.zero_le _⟩ d_Md_parity_1 ?_
  refine z_iconst (v := 1) C d_Md_parity_4 (by decide) ?_
  refine z_iand C d_Md_parity_5 ?_
  cases hf
  exact z_iret C hr d_Md_parity_6
theorem c_Md_parity {l : Launch} {D : va_G} {cI cL : ClassId} {rr x0 : Int32} (hf : f_Md_parity x0 = some rr) : zM l y_Md_parity (Cond.code y_Md_parity b_Md_parity 1 (some .int) :: zT) rm_Md_parity D vwCl [(cI, .int), (cL, .long)] [.int x0] [] [] (some (.int rr)) :=
  zM.intro (by decide) rfl (fun _ h => List.mem_cons_of_mem _ h) (Nat.le_of_ble_eq_true rfl) (fun _ _ _ _ _ _ _ C hr _ => k_Md_parity C hr hf)
def rm_Md_isOutput : Room := { frames := 2, cells := 0, slots := 0, locals := 42 }
def f_Md_isOutput_l2 (x1 : Int32) (x2 : Int32) (v_wires : Int32) (v_set : Nat → Int32) (v_constant : Nat → Int32) (x3 : Int32) : Option ((Int32) ⊕ ((Unit) ⊕ (Int32))) :=
  if v_wires ≤ x3 then (
    some (.inr (.inl ())))
  else (
    if x3 < 0 ∨ 6 ≤ x3.toNatClampNeg then none else
    zb1 (f_Md_parity (x1 &&& (v_set x3.toNatClampNeg))) fun r_4 =>
    if x3 < 0 ∨ 6 ≤ x3.toNatClampNeg then none else
    if (r_4 ^^^ (v_constant x3.toNatClampNeg)) = ((x2 >>> (x3 &&& 31)) &&& (1 : Int32)) then (
      zlet (x3 + 1) fun y_7 =>
      some (.inl (y_7)))
    else (
      some (.inr (.inr (0 : Int32)))))
set_option maxRecDepth 100000 in
set_option maxHeartbeats 4000000 in
theorem k_Md_isOutput_l2 {p : Program} {l : Launch} {e : Env} {s : State} {m : MethodId} {args : Array Value} {below : List Frame} {meth : Method} {c : Code} {D : va_G} {cI cL : ClassId} {h_this h_this_number h_this_set h_this_constant h_this_ruleKind h_this_ruleBit h_this_ruleOther h_this_oldSet h_this_oldNumber h_this_allSets h_this_allNumbers h_this_root : Nat} {v_thrown v_wires v_isOpen v_isEmpty v_came v_there v_halves v_rules v_alone v_halfBits v_allMany rr x1 x2 x3 : Int32} {v_set v_constant : Nat → Int32} (C : zC p s m args meth c b_Md_isOutput 4 R_Md D vwCl [(cI, .int), (cL, .long)] (zA [h_this, h_this_set, h_this_constant] s.heap.size)) (hr : meth.sig.returnType = some .boolean) {z : (Int32) ⊕ ((Unit) ⊕ (Int32))} (hf : f_Md_isOutput_l2 x1 x2 v_wires v_set v_constant x3 = some z) (hK : zcase (fun q => ZV p l e rm_Md_isOutput s m args below meth c 4 D (some (.int rr)) [(h_this, .inr (5, [.int v_thrown, .int v_wires, .int v_isOpen, .int v_isEmpty, .int v_came, .int v_there, .int v_halves, .ref h_this_number, .ref h_this_set, .ref h_this_constant, .int v_rules, .ref h_this_ruleKind, .ref h_this_ruleBit, .ref h_this_ruleOther, .int v_alone, .int v_halfBits, .ref h_this_oldSet, .ref h_this_oldNumber, .ref h_this_allSets, .ref h_this_allNumbers, .int v_allMany, .ref h_this_root])), (h_this_set, .inl (cI, 6, .inl v_set)), (h_this_constant, .inl (cI, 6, .inl v_constant))] [h_this, h_this_set, h_this_constant] [(h_this, .inr (5, [.int v_thrown, .int v_wires, .int v_isOpen, .int v_isEmpty, .int v_came, .int v_there, .int v_halves, .ref h_this_number, .ref h_this_set, .ref h_this_constant, .int v_rules, .ref h_this_ruleKind, .ref h_this_ruleBit, .ref h_this_ruleOther, .int v_alone, .int v_halfBits, .ref h_this_oldSet, .ref h_this_oldNumber, .ref h_this_allSets, .ref h_this_allNumbers, .int v_allMany, .ref h_this_root])), (h_this_set, .inl (cI, 6, .inl v_set)), (h_this_constant, .inl (cI, 6, .inl v_constant))] 2 [(0, .ref h_this), (1, .int x1), (2, .int x2), (3, .int q)] []) (zcase (fun q => ZV p l e rm_Md_isOutput s m args below meth c 4 D (some (.int rr)) [(h_this, .inr (5, [.int v_thrown, .int v_wires, .int v_isOpen, .int v_isEmpty, .int v_came, .int v_there, .int v_halves, .ref h_this_number, .ref h_this_set, .ref h_this_constant, .int v_rules, .ref h_this_ruleKind, .ref h_this_ruleBit, .ref h_this_ruleOther, .int v_alone, .int v_halfBits, .ref h_this_oldSet, .ref h_this_oldNumber, .ref h_this_allSets, .ref h_this_allNumbers, .int v_allMany, .ref h_this_root])), (h_this_set, .inl (cI, 6, .inl v_set)), (h_this_constant, .inl (cI, 6, .inl v_constant))] [h_this, h_this_set, h_this_constant] [(h_this, .inr (5, [.int v_thrown, .int v_wires, .int v_isOpen, .int v_isEmpty, .int v_came, .int v_there, .int v_halves, .ref h_this_number, .ref h_this_set, .ref h_this_constant, .int v_rules, .ref h_this_ruleKind, .ref h_this_ruleBit, .ref h_this_ruleOther, .int v_alone, .int v_halfBits, .ref h_this_oldSet, .ref h_this_oldNumber, .ref h_this_allSets, .ref h_this_allNumbers, .int v_allMany, .ref h_this_root])), (h_this_set, .inl (cI, 6, .inl v_set)), (h_this_constant, .inl (cI, 6, .inl v_constant))] 44 [] []) (fun w => w = rr)) z) : ZV p l e rm_Md_isOutput s m args below meth c 4 D (some (.int rr)) [(h_this, .inr (5, [.int v_thrown, .int v_wires, .int v_isOpen, .int v_isEmpty, .int v_came, .int v_there, .int v_halves, .ref h_this_number, .ref h_this_set, .ref h_this_constant, .int v_rules, .ref h_this_ruleKind, .ref h_this_ruleBit, .ref h_this_ruleOther, .int v_alone, .int v_halfBits, .ref h_this_oldSet, .ref h_this_oldNumber, .ref h_this_allSets, .ref h_this_allNumbers, .int v_allMany, .ref h_this_root])), (h_this_set, .inl (cI, 6, .inl v_set)), (h_this_constant, .inl (cI, 6, .inl v_constant))] [h_this, h_this_set, h_this_constant] [(h_this, .inr (5, [.int v_thrown, .int v_wires, .int v_isOpen, .int v_isEmpty, .int v_came, .int v_there, .int v_halves, .ref h_this_number, .ref h_this_set, .ref h_this_constant, .int v_rules, .ref h_this_ruleKind, .ref h_this_ruleBit, .ref h_this_ruleOther, .int v_alone, .int v_halfBits, .ref h_this_oldSet, .ref h_this_oldNumber, .ref h_this_allSets, .ref h_this_allNumbers, .int v_allMany, .ref h_this_root])), (h_this_set, .inl (cI, 6, .inl v_set)), (h_this_constant, .inl (cI, 6, .inl v_constant))] 2 [(0, .ref h_this), (1, .int x1), (2, .int x2), (3, .int x3)] [] := by
  unfold f_Md_isOutput_l2 at hf
  refine z_iload_n C d_Md_isOutput_2 rfl 3 rfl ?_
  refine z_aload_n C d_Md_isOutput_3 rfl 0 rfl ?_
  refine z_get C iw_Md 0 rfl rfl 1 (by decide) zw_499 rfl d_Md_isOutput_4 ?_
  refine z_icmp_ge (tgt := 44) C d_Md_isOutput_7 (by decide) (fun c_1 => ?_) (fun c_1 => ?_)
  · have hf := zif_pos c_1 hf
    refine z_lv [] rfl ?_
    cases hf
    exact hK
  · have hf := zif_neg c_1 hf
    refine z_iload_n C d_Md_isOutput_10 rfl 1 rfl ?_
    refine z_aload_n C d_Md_isOutput_11 rfl 0 rfl ?_
    refine z_get C iw_Md 0 rfl rfl 8 (by decide) zw_506 rfl d_Md_isOutput_12 ?_
    refine z_iload_n C d_Md_isOutput_15 rfl 3 rfl ?_
    obtain ⟨g_2, hf⟩ := zguard hf
    refine z_iald C 1 0 rfl rfl g_2 d_Md_isOutput_16 ?_
    refine z_iand C d_Md_isOutput_17 ?_
    obtain ⟨r_4, h_3, hf⟩ := zb1_elim hf
    refine z_callS (As := [.int (x1 &&& (v_set x3.toNatClampNeg))]) (rest := []) (ws' := [(h_this, .inr (5, [.int v_thrown, .int v_wires, .int v_isOpen, .int v_isEmpty, .int v_came, .int v_there, .int v_halves, .ref h_this_number, .ref h_this_set, .ref h_this_constant, .int v_rules, .ref h_this_ruleKind, .ref h_this_ruleBit, .ref h_this_ruleOther, .int v_alone, .int v_halfBits, .ref h_this_oldSet, .ref h_this_oldNumber, .ref h_this_allSets, .ref h_this_allNumbers, .int v_allMany, .ref h_this_root])), (h_this_set, .inl (cI, 6, .inl v_set)), (h_this_constant, .inl (cI, 6, .inl v_constant))]) C (c_Md_parity h_3) mi_Md_parity zw_700 (by decide) [] (by decide) rfl rfl rfl rfl rfl (by decide) ⟨Nat.zero_le _, Nat.zero_le _⟩ d_Md_isOutput_18 ?_
    refine z_aload_n C d_Md_isOutput_21 rfl 0 rfl ?_
    refine z_get C iw_Md 0 rfl rfl 9 (by decide) zw_507 rfl d_Md_isOutput_22 ?_
    refine z_iload_n C d_Md_isOutput_25 rfl 3 rfl ?_
    obtain ⟨g_5, hf⟩ := zguard hf
    refine z_iald C 2 0 rfl rfl g_5 d_Md_isOutput_26 ?_
    refine z_ixor C d_Md_isOutput_27 ?_
    refine z_iload_n C d_Md_isOutput_28 rfl 2 rfl ?_
    refine z_iload_n C d_Md_isOutput_29 rfl 3 rfl ?_
    refine z_ishr C d_Md_isOutput_30 ?_
    refine z_iconst (v := 1) C d_Md_isOutput_31 (by decide) ?_
    refine z_iand C d_Md_isOutput_32 ?_
    refine z_icmp_eq (tgt := 38) C d_Md_isOutput_33 (by decide) (fun c_6 => ?_) (fun c_6 => ?_)
    · have hf := zif_pos c_6 hf
      obtain ⟨y_7, ey_7⟩ : ∃ y : Int32, y = x3 + 1 := ⟨_, rfl⟩
      have hf := zlet_at ey_7 hf
      refine z_iinc (v := y_7) (lv' := [(3, .int y_7), (0, .ref h_this), (1, .int x1), (2, .int x2)]) C d_Md_isOutput_38 (k := 3) rfl (by rw [ey_7]; rfl) (by decide) rfl ?_
      refine z_goto (tgt := 2) C d_Md_isOutput_41 (by decide) ?_
      refine z_lv [1, 2, 3, 0] rfl ?_
      cases hf
      exact hK
    · have hf := zif_neg c_6 hf
      refine z_iconst (v := 0) C d_Md_isOutput_36 (by decide) ?_
      cases hf
      have hK : (0 : Int32) = rr := hK
      cases hK
      exact z_zret C hr rfl d_Md_isOutput_37
theorem k_Md_isOutput_l2_run {p : Program} {l : Launch} {e : Env} {s : State} {m : MethodId} {args : Array Value} {below : List Frame} {meth : Method} {c : Code} {D : va_G} {cI cL : ClassId} {h_this h_this_number h_this_set h_this_constant h_this_ruleKind h_this_ruleBit h_this_ruleOther h_this_oldSet h_this_oldNumber h_this_allSets h_this_allNumbers h_this_root : Nat} {v_thrown v_wires v_isOpen v_isEmpty v_came v_there v_halves v_rules v_alone v_halfBits v_allMany rr x1 x2 x3 : Int32} {v_set v_constant : Nat → Int32} (C : zC p s m args meth c b_Md_isOutput 4 R_Md D vwCl [(cI, .int), (cL, .long)] (zA [h_this, h_this_set, h_this_constant] s.heap.size)) (hr : meth.sig.returnType = some .boolean)  (hf : zloop (fun q => f_Md_isOutput_l2 x1 x2 v_wires v_set v_constant q) zF (x3) = some (.inl ())) (hK : ZV p l e rm_Md_isOutput s m args below meth c 4 D (some (.int rr)) [(h_this, .inr (5, [.int v_thrown, .int v_wires, .int v_isOpen, .int v_isEmpty, .int v_came, .int v_there, .int v_halves, .ref h_this_number, .ref h_this_set, .ref h_this_constant, .int v_rules, .ref h_this_ruleKind, .ref h_this_ruleBit, .ref h_this_ruleOther, .int v_alone, .int v_halfBits, .ref h_this_oldSet, .ref h_this_oldNumber, .ref h_this_allSets, .ref h_this_allNumbers, .int v_allMany, .ref h_this_root])), (h_this_set, .inl (cI, 6, .inl v_set)), (h_this_constant, .inl (cI, 6, .inl v_constant))] [h_this, h_this_set, h_this_constant] [(h_this, .inr (5, [.int v_thrown, .int v_wires, .int v_isOpen, .int v_isEmpty, .int v_came, .int v_there, .int v_halves, .ref h_this_number, .ref h_this_set, .ref h_this_constant, .int v_rules, .ref h_this_ruleKind, .ref h_this_ruleBit, .ref h_this_ruleOther, .int v_alone, .int v_halfBits, .ref h_this_oldSet, .ref h_this_oldNumber, .ref h_this_allSets, .ref h_this_allNumbers, .int v_allMany, .ref h_this_root])), (h_this_set, .inl (cI, 6, .inl v_set)), (h_this_constant, .inl (cI, 6, .inl v_constant))] 44 [] []) : ZV p l e rm_Md_isOutput s m args below meth c 4 D (some (.int rr)) [(h_this, .inr (5, [.int v_thrown, .int v_wires, .int v_isOpen, .int v_isEmpty, .int v_came, .int v_there, .int v_halves, .ref h_this_number, .ref h_this_set, .ref h_this_constant, .int v_rules, .ref h_this_ruleKind, .ref h_this_ruleBit, .ref h_this_ruleOther, .int v_alone, .int v_halfBits, .ref h_this_oldSet, .ref h_this_oldNumber, .ref h_this_allSets, .ref h_this_allNumbers, .int v_allMany, .ref h_this_root])), (h_this_set, .inl (cI, 6, .inl v_set)), (h_this_constant, .inl (cI, 6, .inl v_constant))] [h_this, h_this_set, h_this_constant] [(h_this, .inr (5, [.int v_thrown, .int v_wires, .int v_isOpen, .int v_isEmpty, .int v_came, .int v_there, .int v_halves, .ref h_this_number, .ref h_this_set, .ref h_this_constant, .int v_rules, .ref h_this_ruleKind, .ref h_this_ruleBit, .ref h_this_ruleOther, .int v_alone, .int v_halfBits, .ref h_this_oldSet, .ref h_this_oldNumber, .ref h_this_allSets, .ref h_this_allNumbers, .int v_allMany, .ref h_this_root])), (h_this_set, .inl (cI, 6, .inl v_set)), (h_this_constant, .inl (cI, 6, .inl v_constant))] 2 [(0, .ref h_this), (1, .int x1), (2, .int x2), (3, .int x3)] [] :=
  zloop_run (P := fun q => ZV p l e rm_Md_isOutput s m args below meth c 4 D (some (.int rr)) [(h_this, .inr (5, [.int v_thrown, .int v_wires, .int v_isOpen, .int v_isEmpty, .int v_came, .int v_there, .int v_halves, .ref h_this_number, .ref h_this_set, .ref h_this_constant, .int v_rules, .ref h_this_ruleKind, .ref h_this_ruleBit, .ref h_this_ruleOther, .int v_alone, .int v_halfBits, .ref h_this_oldSet, .ref h_this_oldNumber, .ref h_this_allSets, .ref h_this_allNumbers, .int v_allMany, .ref h_this_root])), (h_this_set, .inl (cI, 6, .inl v_set)), (h_this_constant, .inl (cI, 6, .inl v_constant))] [h_this, h_this_set, h_this_constant] [(h_this, .inr (5, [.int v_thrown, .int v_wires, .int v_isOpen, .int v_isEmpty, .int v_came, .int v_there, .int v_halves, .ref h_this_number, .ref h_this_set, .ref h_this_constant, .int v_rules, .ref h_this_ruleKind, .ref h_this_ruleBit, .ref h_this_ruleOther, .int v_alone, .int v_halfBits, .ref h_this_oldSet, .ref h_this_oldNumber, .ref h_this_allSets, .ref h_this_allNumbers, .int v_allMany, .ref h_this_root])), (h_this_set, .inl (cI, 6, .inl v_set)), (h_this_constant, .inl (cI, 6, .inl v_constant))] 2 [(0, .ref h_this), (1, .int x1), (2, .int x2), (3, .int q)] []) (K := (zcase (fun q => ZV p l e rm_Md_isOutput s m args below meth c 4 D (some (.int rr)) [(h_this, .inr (5, [.int v_thrown, .int v_wires, .int v_isOpen, .int v_isEmpty, .int v_came, .int v_there, .int v_halves, .ref h_this_number, .ref h_this_set, .ref h_this_constant, .int v_rules, .ref h_this_ruleKind, .ref h_this_ruleBit, .ref h_this_ruleOther, .int v_alone, .int v_halfBits, .ref h_this_oldSet, .ref h_this_oldNumber, .ref h_this_allSets, .ref h_this_allNumbers, .int v_allMany, .ref h_this_root])), (h_this_set, .inl (cI, 6, .inl v_set)), (h_this_constant, .inl (cI, 6, .inl v_constant))] [h_this, h_this_set, h_this_constant] [(h_this, .inr (5, [.int v_thrown, .int v_wires, .int v_isOpen, .int v_isEmpty, .int v_came, .int v_there, .int v_halves, .ref h_this_number, .ref h_this_set, .ref h_this_constant, .int v_rules, .ref h_this_ruleKind, .ref h_this_ruleBit, .ref h_this_ruleOther, .int v_alone, .int v_halfBits, .ref h_this_oldSet, .ref h_this_oldNumber, .ref h_this_allSets, .ref h_this_allNumbers, .int v_allMany, .ref h_this_root])), (h_this_set, .inl (cI, 6, .inl v_set)), (h_this_constant, .inl (cI, 6, .inl v_constant))] 44 [] []) (fun w => w = rr))) (fun q z hz hK => k_Md_isOutput_l2 C hr hz hK) zF _ ((.inl ())) hf hK
theorem k_Md_isOutput_l2_runR {p : Program} {l : Launch} {e : Env} {s : State} {m : MethodId} {args : Array Value} {below : List Frame} {meth : Method} {c : Code} {D : va_G} {cI cL : ClassId} {h_this h_this_number h_this_set h_this_constant h_this_ruleKind h_this_ruleBit h_this_ruleOther h_this_oldSet h_this_oldNumber h_this_allSets h_this_allNumbers h_this_root : Nat} {v_thrown v_wires v_isOpen v_isEmpty v_came v_there v_halves v_rules v_alone v_halfBits v_allMany rr x1 x2 x3 : Int32} {v_set v_constant : Nat → Int32} (C : zC p s m args meth c b_Md_isOutput 4 R_Md D vwCl [(cI, .int), (cL, .long)] (zA [h_this, h_this_set, h_this_constant] s.heap.size)) (hr : meth.sig.returnType = some .boolean) (hf : zloop (fun q => f_Md_isOutput_l2 x1 x2 v_wires v_set v_constant q) zF (x3) = some (.inr rr)) : ZV p l e rm_Md_isOutput s m args below meth c 4 D (some (.int rr)) [(h_this, .inr (5, [.int v_thrown, .int v_wires, .int v_isOpen, .int v_isEmpty, .int v_came, .int v_there, .int v_halves, .ref h_this_number, .ref h_this_set, .ref h_this_constant, .int v_rules, .ref h_this_ruleKind, .ref h_this_ruleBit, .ref h_this_ruleOther, .int v_alone, .int v_halfBits, .ref h_this_oldSet, .ref h_this_oldNumber, .ref h_this_allSets, .ref h_this_allNumbers, .int v_allMany, .ref h_this_root])), (h_this_set, .inl (cI, 6, .inl v_set)), (h_this_constant, .inl (cI, 6, .inl v_constant))] [h_this, h_this_set, h_this_constant] [(h_this, .inr (5, [.int v_thrown, .int v_wires, .int v_isOpen, .int v_isEmpty, .int v_came, .int v_there, .int v_halves, .ref h_this_number, .ref h_this_set, .ref h_this_constant, .int v_rules, .ref h_this_ruleKind, .ref h_this_ruleBit, .ref h_this_ruleOther, .int v_alone, .int v_halfBits, .ref h_this_oldSet, .ref h_this_oldNumber, .ref h_this_allSets, .ref h_this_allNumbers, .int v_allMany, .ref h_this_root])), (h_this_set, .inl (cI, 6, .inl v_set)), (h_this_constant, .inl (cI, 6, .inl v_constant))] 2 [(0, .ref h_this), (1, .int x1), (2, .int x2), (3, .int x3)] [] :=
  zloop_run (P := fun q => ZV p l e rm_Md_isOutput s m args below meth c 4 D (some (.int rr)) [(h_this, .inr (5, [.int v_thrown, .int v_wires, .int v_isOpen, .int v_isEmpty, .int v_came, .int v_there, .int v_halves, .ref h_this_number, .ref h_this_set, .ref h_this_constant, .int v_rules, .ref h_this_ruleKind, .ref h_this_ruleBit, .ref h_this_ruleOther, .int v_alone, .int v_halfBits, .ref h_this_oldSet, .ref h_this_oldNumber, .ref h_this_allSets, .ref h_this_allNumbers, .int v_allMany, .ref h_this_root])), (h_this_set, .inl (cI, 6, .inl v_set)), (h_this_constant, .inl (cI, 6, .inl v_constant))] [h_this, h_this_set, h_this_constant] [(h_this, .inr (5, [.int v_thrown, .int v_wires, .int v_isOpen, .int v_isEmpty, .int v_came, .int v_there, .int v_halves, .ref h_this_number, .ref h_this_set, .ref h_this_constant, .int v_rules, .ref h_this_ruleKind, .ref h_this_ruleBit, .ref h_this_ruleOther, .int v_alone, .int v_halfBits, .ref h_this_oldSet, .ref h_this_oldNumber, .ref h_this_allSets, .ref h_this_allNumbers, .int v_allMany, .ref h_this_root])), (h_this_set, .inl (cI, 6, .inl v_set)), (h_this_constant, .inl (cI, 6, .inl v_constant))] 2 [(0, .ref h_this), (1, .int x1), (2, .int x2), (3, .int q)] []) (K := (zcase (fun q => ZV p l e rm_Md_isOutput s m args below meth c 4 D (some (.int rr)) [(h_this, .inr (5, [.int v_thrown, .int v_wires, .int v_isOpen, .int v_isEmpty, .int v_came, .int v_there, .int v_halves, .ref h_this_number, .ref h_this_set, .ref h_this_constant, .int v_rules, .ref h_this_ruleKind, .ref h_this_ruleBit, .ref h_this_ruleOther, .int v_alone, .int v_halfBits, .ref h_this_oldSet, .ref h_this_oldNumber, .ref h_this_allSets, .ref h_this_allNumbers, .int v_allMany, .ref h_this_root])), (h_this_set, .inl (cI, 6, .inl v_set)), (h_this_constant, .inl (cI, 6, .inl v_constant))] [h_this, h_this_set, h_this_constant] [(h_this, .inr (5, [.int v_thrown, .int v_wires, .int v_isOpen, .int v_isEmpty, .int v_came, .int v_there, .int v_halves, .ref h_this_number, .ref h_this_set, .ref h_this_constant, .int v_rules, .ref h_this_ruleKind, .ref h_this_ruleBit, .ref h_this_ruleOther, .int v_alone, .int v_halfBits, .ref h_this_oldSet, .ref h_this_oldNumber, .ref h_this_allSets, .ref h_this_allNumbers, .int v_allMany, .ref h_this_root])), (h_this_set, .inl (cI, 6, .inl v_set)), (h_this_constant, .inl (cI, 6, .inl v_constant))] 44 [] []) (fun w => w = rr))) (fun q z hz hK => k_Md_isOutput_l2 C hr hz hK) zF _ (.inr rr) hf rfl
/-- PathSumsModel.isOutput(II)Z -/
def f_Md_isOutput (x1 : Int32) (x2 : Int32) (v_wires : Int32) (v_set : Nat → Int32) (v_constant : Nat → Int32) : Option (Int32) :=
  zr0 (zloop (fun q => f_Md_isOutput_l2 x1 x2 v_wires v_set v_constant q) zF ((0 : Int32))) fun  =>
  some (1 : Int32)
set_option maxRecDepth 100000 in
set_option maxHeartbeats 4000000 in
theorem k_Md_isOutput {p : Program} {l : Launch} {e : Env} {s : State} {m : MethodId} {args : Array Value} {below : List Frame} {meth : Method} {c : Code} {D : va_G} {cI cL : ClassId} {h_this h_this_number h_this_set h_this_constant h_this_ruleKind h_this_ruleBit h_this_ruleOther h_this_oldSet h_this_oldNumber h_this_allSets h_this_allNumbers h_this_root : Nat} {v_thrown v_wires v_isOpen v_isEmpty v_came v_there v_halves v_rules v_alone v_halfBits v_allMany rr x1 x2 : Int32} {v_set v_constant : Nat → Int32} (C : zC p s m args meth c b_Md_isOutput 4 R_Md D vwCl [(cI, .int), (cL, .long)] (zA [h_this, h_this_set, h_this_constant] s.heap.size)) (hr : meth.sig.returnType = some .boolean) (hf : f_Md_isOutput x1 x2 v_wires v_set v_constant = some rr) : ZV p l e rm_Md_isOutput s m args below meth c 4 D (some (.int rr)) [(h_this, .inr (5, [.int v_thrown, .int v_wires, .int v_isOpen, .int v_isEmpty, .int v_came, .int v_there, .int v_halves, .ref h_this_number, .ref h_this_set, .ref h_this_constant, .int v_rules, .ref h_this_ruleKind, .ref h_this_ruleBit, .ref h_this_ruleOther, .int v_alone, .int v_halfBits, .ref h_this_oldSet, .ref h_this_oldNumber, .ref h_this_allSets, .ref h_this_allNumbers, .int v_allMany, .ref h_this_root])), (h_this_set, .inl (cI, 6, .inl v_set)), (h_this_constant, .inl (cI, 6, .inl v_constant))] [h_this, h_this_set, h_this_constant] [(h_this, .inr (5, [.int v_thrown, .int v_wires, .int v_isOpen, .int v_isEmpty, .int v_came, .int v_there, .int v_halves, .ref h_this_number, .ref h_this_set, .ref h_this_constant, .int v_rules, .ref h_this_ruleKind, .ref h_this_ruleBit, .ref h_this_ruleOther, .int v_alone, .int v_halfBits, .ref h_this_oldSet, .ref h_this_oldNumber, .ref h_this_allSets, .ref h_this_allNumbers, .int v_allMany, .ref h_this_root])), (h_this_set, .inl (cI, 6, .inl v_set)), (h_this_constant, .inl (cI, 6, .inl v_constant))] 0 [(0, .ref h_this), (1, .int x1), (2, .int x2)] [] := by
  unfold f_Md_isOutput at hf
  refine z_iconst (v := 0) C d_Md_isOutput_0 (by decide) ?_
  refine z_istore_n (lv' := [(3, .int (0 : Int32)), (0, .ref h_this), (1, .int x1), (2, .int x2)]) C d_Md_isOutput_1 rfl (by decide) rfl ?_
  refine z_lv [1, 2, 3, 0] rfl ?_
  rcases zr0_elim hf with ⟨, h_1, hf⟩ | h_1
  rotate_left
  · exact k_Md_isOutput_l2_runR C hr h_1
  refine k_Md_isOutput_l2_run C hr h_1 ?_
  refine z_iconst (v := 1) C d_Md_isOutput_44 (by decide) ?_
  cases hf
  exact z_zret C hr rfl d_Md_isOutput_45
theorem c_Md_isOutput {l : Launch} {D : va_G} {cI cL : ClassId} {h_this h_this_number h_this_set h_this_constant h_this_ruleKind h_this_ruleBit h_this_ruleOther h_this_oldSet h_this_oldNumber h_this_allSets h_this_allNumbers h_this_root : Nat} {v_thrown v_wires v_isOpen v_isEmpty v_came v_there v_halves v_rules v_alone v_halfBits v_allMany rr x1 x2 : Int32} {v_set v_constant : Nat → Int32} (hf : f_Md_isOutput x1 x2 v_wires v_set v_constant = some rr) : zM l y_Md_isOutput (Cond.code y_Md_isOutput b_Md_isOutput 4 (some .boolean) :: zT) rm_Md_isOutput D vwCl [(cI, .int), (cL, .long)] [.ref h_this, .int x1, .int x2] [(h_this, .inr (5, [.int v_thrown, .int v_wires, .int v_isOpen, .int v_isEmpty, .int v_came, .int v_there, .int v_halves, .ref h_this_number, .ref h_this_set, .ref h_this_constant, .int v_rules, .ref h_this_ruleKind, .ref h_this_ruleBit, .ref h_this_ruleOther, .int v_alone, .int v_halfBits, .ref h_this_oldSet, .ref h_this_oldNumber, .ref h_this_allSets, .ref h_this_allNumbers, .int v_allMany, .ref h_this_root])), (h_this_set, .inl (cI, 6, .inl v_set)), (h_this_constant, .inl (cI, 6, .inl v_constant))] [(h_this, .inr (5, [.int v_thrown, .int v_wires, .int v_isOpen, .int v_isEmpty, .int v_came, .int v_there, .int v_halves, .ref h_this_number, .ref h_this_set, .ref h_this_constant, .int v_rules, .ref h_this_ruleKind, .ref h_this_ruleBit, .ref h_this_ruleOther, .int v_alone, .int v_halfBits, .ref h_this_oldSet, .ref h_this_oldNumber, .ref h_this_allSets, .ref h_this_allNumbers, .int v_allMany, .ref h_this_root])), (h_this_set, .inl (cI, 6, .inl v_set)), (h_this_constant, .inl (cI, 6, .inl v_constant))] (some (.int rr)) :=
  zM.intro (by decide) rfl (fun _ h => List.mem_cons_of_mem _ h) (Nat.le_of_ble_eq_true rfl) (fun _ _ _ _ _ _ _ C hr _ => k_Md_isOutput C hr hf)
def rm_Md_phaseOf : Room := { frames := 0, cells := 0, slots := 0, locals := 0 }
def f_Md_phaseOf_l4 (x1 : Int32) (v_allMany : Int32) (v_allSets : Nat → Int32) (v_allNumbers : Nat → Int32) (x2 : Int32) (x3 : Int32) : Option ((Int32 × Int32) ⊕ (Int32)) :=
  if v_allMany ≤ x3 then (
    some (.inr (x2)))
  else (
    if x3 < 0 ∨ 2325 ≤ x3.toNatClampNeg then none else
    if x3 < 0 ∨ 2325 ≤ x3.toNatClampNeg then none else
    if ((v_allSets x3.toNatClampNeg) &&& x1) = (v_allSets x3.toNatClampNeg) then (
      if x3 < 0 ∨ 2325 ≤ x3.toNatClampNeg then none else
      zlet (x2 + (v_allNumbers x3.toNatClampNeg)) fun y_6 =>
      zlet (x3 + 1) fun y_7 =>
      some (.inl (y_6, y_7)))
    else (
      zlet (x2 + (0 : Int32)) fun y_8 =>
      zlet (x3 + 1) fun y_9 =>
      some (.inl (y_8, y_9))))
set_option maxRecDepth 100000 in
set_option maxHeartbeats 4000000 in
theorem k_Md_phaseOf_l4 {p : Program} {l : Launch} {e : Env} {s : State} {m : MethodId} {args : Array Value} {below : List Frame} {meth : Method} {c : Code} {D : va_G} {cI cL : ClassId} {h_this h_this_number h_this_set h_this_constant h_this_ruleKind h_this_ruleBit h_this_ruleOther h_this_oldSet h_this_oldNumber h_this_allSets h_this_allNumbers h_this_root : Nat} {v_thrown v_wires v_isOpen v_isEmpty v_came v_there v_halves v_rules v_alone v_halfBits v_allMany rr x1 x2 x3 : Int32} {v_allSets v_allNumbers : Nat → Int32} (C : zC p s m args meth c b_Md_phaseOf 4 R_Md D vwCl [(cI, .int), (cL, .long)] (zA [h_this, h_this_allSets, h_this_allNumbers] s.heap.size)) (hr : meth.sig.returnType = some .int) {z : (Int32 × Int32) ⊕ (Int32)} (hf : f_Md_phaseOf_l4 x1 v_allMany v_allSets v_allNumbers x2 x3 = some z) (hK : zcase (fun q => ZV p l e rm_Md_phaseOf s m args below meth c 4 D (some (.int rr)) [(h_this, .inr (5, [.int v_thrown, .int v_wires, .int v_isOpen, .int v_isEmpty, .int v_came, .int v_there, .int v_halves, .ref h_this_number, .ref h_this_set, .ref h_this_constant, .int v_rules, .ref h_this_ruleKind, .ref h_this_ruleBit, .ref h_this_ruleOther, .int v_alone, .int v_halfBits, .ref h_this_oldSet, .ref h_this_oldNumber, .ref h_this_allSets, .ref h_this_allNumbers, .int v_allMany, .ref h_this_root])), (h_this_allSets, .inl (cI, 2325, .inl v_allSets)), (h_this_allNumbers, .inl (cI, 2325, .inl v_allNumbers))] [h_this, h_this_allSets, h_this_allNumbers] [(h_this, .inr (5, [.int v_thrown, .int v_wires, .int v_isOpen, .int v_isEmpty, .int v_came, .int v_there, .int v_halves, .ref h_this_number, .ref h_this_set, .ref h_this_constant, .int v_rules, .ref h_this_ruleKind, .ref h_this_ruleBit, .ref h_this_ruleOther, .int v_alone, .int v_halfBits, .ref h_this_oldSet, .ref h_this_oldNumber, .ref h_this_allSets, .ref h_this_allNumbers, .int v_allMany, .ref h_this_root])), (h_this_allSets, .inl (cI, 2325, .inl v_allSets)), (h_this_allNumbers, .inl (cI, 2325, .inl v_allNumbers))] 4 [(0, .ref h_this), (1, .int x1), (2, .int q.1), (3, .int q.2)] []) (fun q => ZV p l e rm_Md_phaseOf s m args below meth c 4 D (some (.int rr)) [(h_this, .inr (5, [.int v_thrown, .int v_wires, .int v_isOpen, .int v_isEmpty, .int v_came, .int v_there, .int v_halves, .ref h_this_number, .ref h_this_set, .ref h_this_constant, .int v_rules, .ref h_this_ruleKind, .ref h_this_ruleBit, .ref h_this_ruleOther, .int v_alone, .int v_halfBits, .ref h_this_oldSet, .ref h_this_oldNumber, .ref h_this_allSets, .ref h_this_allNumbers, .int v_allMany, .ref h_this_root])), (h_this_allSets, .inl (cI, 2325, .inl v_allSets)), (h_this_allNumbers, .inl (cI, 2325, .inl v_allNumbers))] [h_this, h_this_allSets, h_this_allNumbers] [(h_this, .inr (5, [.int v_thrown, .int v_wires, .int v_isOpen, .int v_isEmpty, .int v_came, .int v_there, .int v_halves, .ref h_this_number, .ref h_this_set, .ref h_this_constant, .int v_rules, .ref h_this_ruleKind, .ref h_this_ruleBit, .ref h_this_ruleOther, .int v_alone, .int v_halfBits, .ref h_this_oldSet, .ref h_this_oldNumber, .ref h_this_allSets, .ref h_this_allNumbers, .int v_allMany, .ref h_this_root])), (h_this_allSets, .inl (cI, 2325, .inl v_allSets)), (h_this_allNumbers, .inl (cI, 2325, .inl v_allNumbers))] 48 [(2, .int q)] []) z) : ZV p l e rm_Md_phaseOf s m args below meth c 4 D (some (.int rr)) [(h_this, .inr (5, [.int v_thrown, .int v_wires, .int v_isOpen, .int v_isEmpty, .int v_came, .int v_there, .int v_halves, .ref h_this_number, .ref h_this_set, .ref h_this_constant, .int v_rules, .ref h_this_ruleKind, .ref h_this_ruleBit, .ref h_this_ruleOther, .int v_alone, .int v_halfBits, .ref h_this_oldSet, .ref h_this_oldNumber, .ref h_this_allSets, .ref h_this_allNumbers, .int v_allMany, .ref h_this_root])), (h_this_allSets, .inl (cI, 2325, .inl v_allSets)), (h_this_allNumbers, .inl (cI, 2325, .inl v_allNumbers))] [h_this, h_this_allSets, h_this_allNumbers] [(h_this, .inr (5, [.int v_thrown, .int v_wires, .int v_isOpen, .int v_isEmpty, .int v_came, .int v_there, .int v_halves, .ref h_this_number, .ref h_this_set, .ref h_this_constant, .int v_rules, .ref h_this_ruleKind, .ref h_this_ruleBit, .ref h_this_ruleOther, .int v_alone, .int v_halfBits, .ref h_this_oldSet, .ref h_this_oldNumber, .ref h_this_allSets, .ref h_this_allNumbers, .int v_allMany, .ref h_this_root])), (h_this_allSets, .inl (cI, 2325, .inl v_allSets)), (h_this_allNumbers, .inl (cI, 2325, .inl v_allNumbers))] 4 [(0, .ref h_this), (1, .int x1), (2, .int x2), (3, .int x3)] [] := by
  unfold f_Md_phaseOf_l4 at hf
  refine z_iload_n C d_Md_phaseOf_4 rfl 3 rfl ?_
  refine z_aload_n C d_Md_phaseOf_5 rfl 0 rfl ?_
  refine z_get C iw_Md 0 rfl rfl 20 (by decide) zw_518 rfl d_Md_phaseOf_6 ?_
  refine z_icmp_ge (tgt := 48) C d_Md_phaseOf_9 (by decide) (fun c_1 => ?_) (fun c_1 => ?_)
  · have hf := zif_pos c_1 hf
    refine z_lv [2] rfl ?_
    cases hf
    exact hK
  · have hf := zif_neg c_1 hf
    refine z_iload_n C d_Md_phaseOf_12 rfl 2 rfl ?_
    refine z_aload_n C d_Md_phaseOf_13 rfl 0 rfl ?_
    refine z_get C iw_Md 0 rfl rfl 18 (by decide) zw_516 rfl d_Md_phaseOf_14 ?_
    refine z_iload_n C d_Md_phaseOf_17 rfl 3 rfl ?_
    obtain ⟨g_2, hf⟩ := zguard hf
    refine z_iald C 1 0 rfl rfl g_2 d_Md_phaseOf_18 ?_
    refine z_iload_n C d_Md_phaseOf_19 rfl 1 rfl ?_
    refine z_iand C d_Md_phaseOf_20 ?_
    refine z_aload_n C d_Md_phaseOf_21 rfl 0 rfl ?_
    refine z_get C iw_Md 0 rfl rfl 18 (by decide) zw_516 rfl d_Md_phaseOf_22 ?_
    refine z_iload_n C d_Md_phaseOf_25 rfl 3 rfl ?_
    obtain ⟨g_3, hf⟩ := zguard hf
    refine z_iald C 1 0 rfl rfl g_3 d_Md_phaseOf_26 ?_
    refine z_icmp_ne (tgt := 39) C d_Md_phaseOf_27 (by decide) (fun c_4 => ?_) (fun c_4 => ?_)
    · have hf := zif_neg c_4 hf
      refine z_iconst (v := 0) C d_Md_phaseOf_39 (by decide) ?_
      refine z_iadd C d_Md_phaseOf_40 ?_
      refine z_topi (fun y_8 ey_8 => ?_)
      have hf := zlet_at ey_8 hf
      refine z_istore_n (lv' := [(2, .int y_8), (0, .ref h_this), (1, .int x1), (3, .int x3)]) C d_Md_phaseOf_41 rfl (by decide) rfl ?_
      obtain ⟨y_9, ey_9⟩ : ∃ y : Int32, y = x3 + 1 := ⟨_, rfl⟩
      have hf := zlet_at ey_9 hf
      refine z_iinc (v := y_9) (lv' := [(3, .int y_9), (2, .int y_8), (0, .ref h_this), (1, .int x1)]) C d_Md_phaseOf_42 (k := 3) rfl (by rw [ey_9]; rfl) (by decide) rfl ?_
      refine z_goto (tgt := 4) C d_Md_phaseOf_45 (by decide) ?_
      refine z_lv [2, 3, 1, 0] rfl ?_
      cases hf
      exact hK
    · have hf := zif_pos c_4 hf
      refine z_aload_n C d_Md_phaseOf_30 rfl 0 rfl ?_
      refine z_get C iw_Md 0 rfl rfl 19 (by decide) zw_517 rfl d_Md_phaseOf_31 ?_
      refine z_iload_n C d_Md_phaseOf_34 rfl 3 rfl ?_
      obtain ⟨g_5, hf⟩ := zguard hf
      refine z_iald C 2 0 rfl rfl g_5 d_Md_phaseOf_35 ?_
      refine z_goto (tgt := 40) C d_Md_phaseOf_36 (by decide) ?_
      refine z_iadd C d_Md_phaseOf_40 ?_
      refine z_topi (fun y_6 ey_6 => ?_)
      have hf := zlet_at ey_6 hf
      refine z_istore_n (lv' := [(2, .int y_6), (0, .ref h_this), (1, .int x1), (3, .int x3)]) C d_Md_phaseOf_41 rfl (by decide) rfl ?_
      obtain ⟨y_7, ey_7⟩ : ∃ y : Int32, y = x3 + 1 := ⟨_, rfl⟩
      have hf := zlet_at ey_7 hf
      refine z_iinc (v := y_7) (lv' := [(3, .int y_7), (2, .int y_6), (0, .ref h_this), (1, .int x1)]) C d_Md_phaseOf_42 (k := 3) rfl (by rw [ey_7]; rfl) (by decide) rfl ?_
      refine z_goto (tgt := 4) C d_Md_phaseOf_45 (by decide) ?_
      refine z_lv [2, 3, 1, 0] rfl ?_
      cases hf
      exact hK
theorem k_Md_phaseOf_l4_run {p : Program} {l : Launch} {e : Env} {s : State} {m : MethodId} {args : Array Value} {below : List Frame} {meth : Method} {c : Code} {D : va_G} {cI cL : ClassId} {h_this h_this_number h_this_set h_this_constant h_this_ruleKind h_this_ruleBit h_this_ruleOther h_this_oldSet h_this_oldNumber h_this_allSets h_this_allNumbers h_this_root : Nat} {v_thrown v_wires v_isOpen v_isEmpty v_came v_there v_halves v_rules v_alone v_halfBits v_allMany rr x1 x2 x3 : Int32} {v_allSets v_allNumbers : Nat → Int32} (C : zC p s m args meth c b_Md_phaseOf 4 R_Md D vwCl [(cI, .int), (cL, .long)] (zA [h_this, h_this_allSets, h_this_allNumbers] s.heap.size)) (hr : meth.sig.returnType = some .int) {o0 : Int32} (hf : zloop (fun q => f_Md_phaseOf_l4 x1 v_allMany v_allSets v_allNumbers q.1 q.2) zF (x2, x3) = some o0) (hK : ZV p l e rm_Md_phaseOf s m args below meth c 4 D (some (.int rr)) [(h_this, .inr (5, [.int v_thrown, .int v_wires, .int v_isOpen, .int v_isEmpty, .int v_came, .int v_there, .int v_halves, .ref h_this_number, .ref h_this_set, .ref h_this_constant, .int v_rules, .ref h_this_ruleKind, .ref h_this_ruleBit, .ref h_this_ruleOther, .int v_alone, .int v_halfBits, .ref h_this_oldSet, .ref h_this_oldNumber, .ref h_this_allSets, .ref h_this_allNumbers, .int v_allMany, .ref h_this_root])), (h_this_allSets, .inl (cI, 2325, .inl v_allSets)), (h_this_allNumbers, .inl (cI, 2325, .inl v_allNumbers))] [h_this, h_this_allSets, h_this_allNumbers] [(h_this, .inr (5, [.int v_thrown, .int v_wires, .int v_isOpen, .int v_isEmpty, .int v_came, .int v_there, .int v_halves, .ref h_this_number, .ref h_this_set, .ref h_this_constant, .int v_rules, .ref h_this_ruleKind, .ref h_this_ruleBit, .ref h_this_ruleOther, .int v_alone, .int v_halfBits, .ref h_this_oldSet, .ref h_this_oldNumber, .ref h_this_allSets, .ref h_this_allNumbers, .int v_allMany, .ref h_this_root])), (h_this_allSets, .inl (cI, 2325, .inl v_allSets)), (h_this_allNumbers, .inl (cI, 2325, .inl v_allNumbers))] 48 [(2, .int o0)] []) : ZV p l e rm_Md_phaseOf s m args below meth c 4 D (some (.int rr)) [(h_this, .inr (5, [.int v_thrown, .int v_wires, .int v_isOpen, .int v_isEmpty, .int v_came, .int v_there, .int v_halves, .ref h_this_number, .ref h_this_set, .ref h_this_constant, .int v_rules, .ref h_this_ruleKind, .ref h_this_ruleBit, .ref h_this_ruleOther, .int v_alone, .int v_halfBits, .ref h_this_oldSet, .ref h_this_oldNumber, .ref h_this_allSets, .ref h_this_allNumbers, .int v_allMany, .ref h_this_root])), (h_this_allSets, .inl (cI, 2325, .inl v_allSets)), (h_this_allNumbers, .inl (cI, 2325, .inl v_allNumbers))] [h_this, h_this_allSets, h_this_allNumbers] [(h_this, .inr (5, [.int v_thrown, .int v_wires, .int v_isOpen, .int v_isEmpty, .int v_came, .int v_there, .int v_halves, .ref h_this_number, .ref h_this_set, .ref h_this_constant, .int v_rules, .ref h_this_ruleKind, .ref h_this_ruleBit, .ref h_this_ruleOther, .int v_alone, .int v_halfBits, .ref h_this_oldSet, .ref h_this_oldNumber, .ref h_this_allSets, .ref h_this_allNumbers, .int v_allMany, .ref h_this_root])), (h_this_allSets, .inl (cI, 2325, .inl v_allSets)), (h_this_allNumbers, .inl (cI, 2325, .inl v_allNumbers))] 4 [(0, .ref h_this), (1, .int x1), (2, .int x2), (3, .int x3)] [] :=
  zloop_run (P := fun q => ZV p l e rm_Md_phaseOf s m args below meth c 4 D (some (.int rr)) [(h_this, .inr (5, [.int v_thrown, .int v_wires, .int v_isOpen, .int v_isEmpty, .int v_came, .int v_there, .int v_halves, .ref h_this_number, .ref h_this_set, .ref h_this_constant, .int v_rules, .ref h_this_ruleKind, .ref h_this_ruleBit, .ref h_this_ruleOther, .int v_alone, .int v_halfBits, .ref h_this_oldSet, .ref h_this_oldNumber, .ref h_this_allSets, .ref h_this_allNumbers, .int v_allMany, .ref h_this_root])), (h_this_allSets, .inl (cI, 2325, .inl v_allSets)), (h_this_allNumbers, .inl (cI, 2325, .inl v_allNumbers))] [h_this, h_this_allSets, h_this_allNumbers] [(h_this, .inr (5, [.int v_thrown, .int v_wires, .int v_isOpen, .int v_isEmpty, .int v_came, .int v_there, .int v_halves, .ref h_this_number, .ref h_this_set, .ref h_this_constant, .int v_rules, .ref h_this_ruleKind, .ref h_this_ruleBit, .ref h_this_ruleOther, .int v_alone, .int v_halfBits, .ref h_this_oldSet, .ref h_this_oldNumber, .ref h_this_allSets, .ref h_this_allNumbers, .int v_allMany, .ref h_this_root])), (h_this_allSets, .inl (cI, 2325, .inl v_allSets)), (h_this_allNumbers, .inl (cI, 2325, .inl v_allNumbers))] 4 [(0, .ref h_this), (1, .int x1), (2, .int q.1), (3, .int q.2)] []) (K := (fun q => ZV p l e rm_Md_phaseOf s m args below meth c 4 D (some (.int rr)) [(h_this, .inr (5, [.int v_thrown, .int v_wires, .int v_isOpen, .int v_isEmpty, .int v_came, .int v_there, .int v_halves, .ref h_this_number, .ref h_this_set, .ref h_this_constant, .int v_rules, .ref h_this_ruleKind, .ref h_this_ruleBit, .ref h_this_ruleOther, .int v_alone, .int v_halfBits, .ref h_this_oldSet, .ref h_this_oldNumber, .ref h_this_allSets, .ref h_this_allNumbers, .int v_allMany, .ref h_this_root])), (h_this_allSets, .inl (cI, 2325, .inl v_allSets)), (h_this_allNumbers, .inl (cI, 2325, .inl v_allNumbers))] [h_this, h_this_allSets, h_this_allNumbers] [(h_this, .inr (5, [.int v_thrown, .int v_wires, .int v_isOpen, .int v_isEmpty, .int v_came, .int v_there, .int v_halves, .ref h_this_number, .ref h_this_set, .ref h_this_constant, .int v_rules, .ref h_this_ruleKind, .ref h_this_ruleBit, .ref h_this_ruleOther, .int v_alone, .int v_halfBits, .ref h_this_oldSet, .ref h_this_oldNumber, .ref h_this_allSets, .ref h_this_allNumbers, .int v_allMany, .ref h_this_root])), (h_this_allSets, .inl (cI, 2325, .inl v_allSets)), (h_this_allNumbers, .inl (cI, 2325, .inl v_allNumbers))] 48 [(2, .int q)] [])) (fun q z hz hK => k_Md_phaseOf_l4 C hr hz hK) zF _ (o0) hf hK
/-- PathSumsModel.phaseOf(I)I -/
def f_Md_phaseOf (x1 : Int32) (v_allMany : Int32) (v_allSets : Nat → Int32) (v_allNumbers : Nat → Int32) : Option (Int32) :=
  zb1 (zloop (fun q => f_Md_phaseOf_l4 x1 v_allMany v_allSets v_allNumbers q.1 q.2) zF ((0 : Int32), (0 : Int32))) fun y_1 =>
  some (y_1 &&& (7 : Int32))
set_option maxRecDepth 100000 in
set_option maxHeartbeats 4000000 in
theorem k_Md_phaseOf {p : Program} {l : Launch} {e : Env} {s : State} {m : MethodId} {args : Array Value} {below : List Frame} {meth : Method} {c : Code} {D : va_G} {cI cL : ClassId} {h_this h_this_number h_this_set h_this_constant h_this_ruleKind h_this_ruleBit h_this_ruleOther h_this_oldSet h_this_oldNumber h_this_allSets h_this_allNumbers h_this_root : Nat} {v_thrown v_wires v_isOpen v_isEmpty v_came v_there v_halves v_rules v_alone v_halfBits v_allMany rr x1 : Int32} {v_allSets v_allNumbers : Nat → Int32} (C : zC p s m args meth c b_Md_phaseOf 4 R_Md D vwCl [(cI, .int), (cL, .long)] (zA [h_this, h_this_allSets, h_this_allNumbers] s.heap.size)) (hr : meth.sig.returnType = some .int) (hf : f_Md_phaseOf x1 v_allMany v_allSets v_allNumbers = some rr) : ZV p l e rm_Md_phaseOf s m args below meth c 4 D (some (.int rr)) [(h_this, .inr (5, [.int v_thrown, .int v_wires, .int v_isOpen, .int v_isEmpty, .int v_came, .int v_there, .int v_halves, .ref h_this_number, .ref h_this_set, .ref h_this_constant, .int v_rules, .ref h_this_ruleKind, .ref h_this_ruleBit, .ref h_this_ruleOther, .int v_alone, .int v_halfBits, .ref h_this_oldSet, .ref h_this_oldNumber, .ref h_this_allSets, .ref h_this_allNumbers, .int v_allMany, .ref h_this_root])), (h_this_allSets, .inl (cI, 2325, .inl v_allSets)), (h_this_allNumbers, .inl (cI, 2325, .inl v_allNumbers))] [h_this, h_this_allSets, h_this_allNumbers] [(h_this, .inr (5, [.int v_thrown, .int v_wires, .int v_isOpen, .int v_isEmpty, .int v_came, .int v_there, .int v_halves, .ref h_this_number, .ref h_this_set, .ref h_this_constant, .int v_rules, .ref h_this_ruleKind, .ref h_this_ruleBit, .ref h_this_ruleOther, .int v_alone, .int v_halfBits, .ref h_this_oldSet, .ref h_this_oldNumber, .ref h_this_allSets, .ref h_this_allNumbers, .int v_allMany, .ref h_this_root])), (h_this_allSets, .inl (cI, 2325, .inl v_allSets)), (h_this_allNumbers, .inl (cI, 2325, .inl v_allNumbers))] 0 [(0, .ref h_this), (1, .int x1)] [] := by
  unfold f_Md_phaseOf at hf
  refine z_iconst (v := 0) C d_Md_phaseOf_0 (by decide) ?_
  refine z_istore_n (lv' := [(2, .int (0 : Int32)), (0, .ref h_this), (1, .int x1)]) C d_Md_phaseOf_1 rfl (by decide) rfl ?_
  refine z_iconst (v := 0) C d_Md_phaseOf_2 (by decide) ?_
  refine z_istore_n (lv' := [(3, .int (0 : Int32)), (2, .int (0 : Int32)), (0, .ref h_this), (1, .int x1)]) C d_Md_phaseOf_3 rfl (by decide) rfl ?_
  refine z_lv [2, 3, 1, 0] rfl ?_
  obtain ⟨y_1, h_2, hf⟩ := zb1_elim hf
  refine k_Md_phaseOf_l4_run C hr h_2 ?_
  refine z_iload_n C d_Md_phaseOf_48 rfl 0 rfl ?_
  refine z_bipush (v := 7) C d_Md_phaseOf_49 (by decide) ?_
  refine z_iand C d_Md_phaseOf_51 ?_
  cases hf
  exact z_iret C hr d_Md_phaseOf_52
theorem c_Md_phaseOf {l : Launch} {D : va_G} {cI cL : ClassId} {h_this h_this_number h_this_set h_this_constant h_this_ruleKind h_this_ruleBit h_this_ruleOther h_this_oldSet h_this_oldNumber h_this_allSets h_this_allNumbers h_this_root : Nat} {v_thrown v_wires v_isOpen v_isEmpty v_came v_there v_halves v_rules v_alone v_halfBits v_allMany rr x1 : Int32} {v_allSets v_allNumbers : Nat → Int32} (hf : f_Md_phaseOf x1 v_allMany v_allSets v_allNumbers = some rr) : zM l y_Md_phaseOf (Cond.code y_Md_phaseOf b_Md_phaseOf 4 (some .int) :: zT) rm_Md_phaseOf D vwCl [(cI, .int), (cL, .long)] [.ref h_this, .int x1] [(h_this, .inr (5, [.int v_thrown, .int v_wires, .int v_isOpen, .int v_isEmpty, .int v_came, .int v_there, .int v_halves, .ref h_this_number, .ref h_this_set, .ref h_this_constant, .int v_rules, .ref h_this_ruleKind, .ref h_this_ruleBit, .ref h_this_ruleOther, .int v_alone, .int v_halfBits, .ref h_this_oldSet, .ref h_this_oldNumber, .ref h_this_allSets, .ref h_this_allNumbers, .int v_allMany, .ref h_this_root])), (h_this_allSets, .inl (cI, 2325, .inl v_allSets)), (h_this_allNumbers, .inl (cI, 2325, .inl v_allNumbers))] [(h_this, .inr (5, [.int v_thrown, .int v_wires, .int v_isOpen, .int v_isEmpty, .int v_came, .int v_there, .int v_halves, .ref h_this_number, .ref h_this_set, .ref h_this_constant, .int v_rules, .ref h_this_ruleKind, .ref h_this_ruleBit, .ref h_this_ruleOther, .int v_alone, .int v_halfBits, .ref h_this_oldSet, .ref h_this_oldNumber, .ref h_this_allSets, .ref h_this_allNumbers, .int v_allMany, .ref h_this_root])), (h_this_allSets, .inl (cI, 2325, .inl v_allSets)), (h_this_allNumbers, .inl (cI, 2325, .inl v_allNumbers))] (some (.int rr)) :=
  zM.intro (by decide) rfl (fun _ h => List.mem_cons_of_mem _ h) (Nat.le_of_ble_eq_true rfl) (fun _ _ _ _ _ _ _ C hr _ => k_Md_phaseOf C hr hf)
def rm_Md_spread : Room := { frames := 0, cells := 0, slots := 0, locals := 0 }
def f_Md_spread_l7 (x1 : Int32) (x2 : Int32) (x3 : Int32) (x4 : Int32) : Option ((Int32 × Int32 × Int32) ⊕ (Int32)) :=
  if (24 : Int32) ≤ x4 then (
    some (.inr (x2)))
  else (
    if ((x1 >>> (x4 &&& 31)) &&& (1 : Int32)) = 0 then (
      zlet (x4 + 1) fun y_3 =>
      some (.inl (x2, x3, y_3)))
    else (
      zlet (x2 ||| ((x3 &&& (1 : Int32)) <<< (x4 &&& 31))) fun y_4 =>
      zlet (x3 >>> ((1 : Int32) &&& 31)) fun y_5 =>
      zlet (x4 + 1) fun y_6 =>
      some (.inl (y_4, y_5, y_6))))
set_option maxRecDepth 100000 in
set_option maxHeartbeats 4000000 in
theorem k_Md_spread_l7 {p : Program} {l : Launch} {e : Env} {s : State} {m : MethodId} {args : Array Value} {below : List Frame} {meth : Method} {c : Code} {D : va_G} {cI cL : ClassId} {rr x1 x2 x3 x4 : Int32} (C : zC p s m args meth c b_Md_spread 5 R_Md D vwCl [(cI, .int), (cL, .long)] (zA [] s.heap.size)) (hr : meth.sig.returnType = some .int) {z : (Int32 × Int32 × Int32) ⊕ (Int32)} (hf : f_Md_spread_l7 x1 x2 x3 x4 = some z) (hK : zcase (fun q => ZV p l e rm_Md_spread s m args below meth c 5 D (some (.int rr)) [] [] [] 7 [(1, .int x1), (2, .int q.1), (3, .int q.2.1), (4, .int q.2.2)] []) (fun q => ZV p l e rm_Md_spread s m args below meth c 5 D (some (.int rr)) [] [] [] 45 [(2, .int q)] []) z) : ZV p l e rm_Md_spread s m args below meth c 5 D (some (.int rr)) [] [] [] 7 [(1, .int x1), (2, .int x2), (3, .int x3), (4, .int x4)] [] := by
  unfold f_Md_spread_l7 at hf
  refine z_iload C d_Md_spread_7 3 rfl ?_
  refine z_bipush (v := 24) C d_Md_spread_9 (by decide) ?_
  refine z_icmp_ge (tgt := 45) C d_Md_spread_11 (by decide) (fun c_1 => ?_) (fun c_1 => ?_)
  · have hf := zif_pos c_1 hf
    refine z_lv [1] rfl ?_
    cases hf
    exact hK
  · have hf := zif_neg c_1 hf
    refine z_iload_n C d_Md_spread_14 rfl 0 rfl ?_
    refine z_iload C d_Md_spread_15 3 rfl ?_
    refine z_ishr C d_Md_spread_17 ?_
    refine z_iconst (v := 1) C d_Md_spread_18 (by decide) ?_
    refine z_iand C d_Md_spread_19 ?_
    refine z_if_ne (tgt := 26) C d_Md_spread_20 (by decide) (fun c_2 => ?_) (fun c_2 => ?_)
    · have hf := zif_neg c_2 hf
      refine z_iload_n C d_Md_spread_26 rfl 1 rfl ?_
      refine z_iload_n C d_Md_spread_27 rfl 2 rfl ?_
      refine z_iconst (v := 1) C d_Md_spread_28 (by decide) ?_
      refine z_iand C d_Md_spread_29 ?_
      refine z_iload C d_Md_spread_30 3 rfl ?_
      refine z_ishl C d_Md_spread_32 ?_
      refine z_ior C d_Md_spread_33 ?_
      refine z_topi (fun y_4 ey_4 => ?_)
      have hf := zlet_at ey_4 hf
      refine z_istore_n (lv' := [(2, .int y_4), (1, .int x1), (3, .int x3), (4, .int x4)]) C d_Md_spread_34 rfl (by decide) rfl ?_
      refine z_iload_n C d_Md_spread_35 rfl 2 rfl ?_
      refine z_iconst (v := 1) C d_Md_spread_36 (by decide) ?_
      refine z_ishr C d_Md_spread_37 ?_
      refine z_topi (fun y_5 ey_5 => ?_)
      have hf := zlet_at ey_5 hf
      refine z_istore_n (lv' := [(3, .int y_5), (2, .int y_4), (1, .int x1), (4, .int x4)]) C d_Md_spread_38 rfl (by decide) rfl ?_
      obtain ⟨y_6, ey_6⟩ : ∃ y : Int32, y = x4 + 1 := ⟨_, rfl⟩
      have hf := zlet_at ey_6 hf
      refine z_iinc (v := y_6) (lv' := [(4, .int y_6), (3, .int y_5), (2, .int y_4), (1, .int x1)]) C d_Md_spread_39 (k := 3) rfl (by rw [ey_6]; rfl) (by decide) rfl ?_
      refine z_goto (tgt := 7) C d_Md_spread_42 (by decide) ?_
      refine z_lv [3, 2, 1, 0] rfl ?_
      cases hf
      exact hK
    · have hf := zif_pos c_2 hf
      refine z_goto (tgt := 39) C d_Md_spread_23 (by decide) ?_
      obtain ⟨y_3, ey_3⟩ : ∃ y : Int32, y = x4 + 1 := ⟨_, rfl⟩
      have hf := zlet_at ey_3 hf
      refine z_iinc (v := y_3) (lv' := [(4, .int y_3), (1, .int x1), (2, .int x2), (3, .int x3)]) C d_Md_spread_39 (k := 3) rfl (by rw [ey_3]; rfl) (by decide) rfl ?_
      refine z_goto (tgt := 7) C d_Md_spread_42 (by decide) ?_
      refine z_lv [1, 2, 3, 0] rfl ?_
      cases hf
      exact hK
theorem k_Md_spread_l7_run {p : Program} {l : Launch} {e : Env} {s : State} {m : MethodId} {args : Array Value} {below : List Frame} {meth : Method} {c : Code} {D : va_G} {cI cL : ClassId} {rr x1 x2 x3 x4 : Int32} (C : zC p s m args meth c b_Md_spread 5 R_Md D vwCl [(cI, .int), (cL, .long)] (zA [] s.heap.size)) (hr : meth.sig.returnType = some .int) {o0 : Int32} (hf : zloop (fun q => f_Md_spread_l7 x1 q.1 q.2.1 q.2.2) zF (x2, x3, x4) = some o0) (hK : ZV p l e rm_Md_spread s m args below meth c 5 D (some (.int rr)) [] [] [] 45 [(2, .int o0)] []) : ZV p l e rm_Md_spread s m args below meth c 5 D (some (.int rr)) [] [] [] 7 [(1, .int x1), (2, .int x2), (3, .int x3), (4, .int x4)] [] :=
  zloop_run (P := fun q => ZV p l e rm_Md_spread s m args below meth c 5 D (some (.int rr)) [] [] [] 7 [(1, .int x1), (2, .int q.1), (3, .int q.2.1), (4, .int q.2.2)] []) (K := (fun q => ZV p l e rm_Md_spread s m args below meth c 5 D (some (.int rr)) [] [] [] 45 [(2, .int q)] [])) (fun q z hz hK => k_Md_spread_l7 C hr hz hK) zF _ (o0) hf hK
/-- PathSumsModel.spread(II)I -/
def f_Md_spread (x0 : Int32) (x1 : Int32) : Option (Int32) :=
  zb1 (zloop (fun q => f_Md_spread_l7 x1 q.1 q.2.1 q.2.2) zF ((0 : Int32), x0, (0 : Int32))) fun y_1 =>
  some (y_1)
set_option maxRecDepth 100000 in
set_option maxHeartbeats 4000000 in
theorem k_Md_spread {p : Program} {l : Launch} {e : Env} {s : State} {m : MethodId} {args : Array Value} {below : List Frame} {meth : Method} {c : Code} {D : va_G} {cI cL : ClassId} {rr x0 x1 : Int32} (C : zC p s m args meth c b_Md_spread 5 R_Md D vwCl [(cI, .int), (cL, .long)] (zA [] s.heap.size)) (hr : meth.sig.returnType = some .int) (hf : f_Md_spread x0 x1 = some rr) : ZV p l e rm_Md_spread s m args below meth c 5 D (some (.int rr)) [] [] [] 0 [(0, .int x0), (1, .int x1)] [] := by
  unfold f_Md_spread at hf
  refine z_iconst (v := 0) C d_Md_spread_0 (by decide) ?_
  refine z_istore_n (lv' := [(2, .int (0 : Int32)), (0, .int x0), (1, .int x1)]) C d_Md_spread_1 rfl (by decide) rfl ?_
  refine z_iload_n C d_Md_spread_2 rfl 1 rfl ?_
  refine z_istore_n (lv' := [(3, .int x0), (2, .int (0 : Int32)), (0, .int x0), (1, .int x1)]) C d_Md_spread_3 rfl (by decide) rfl ?_
  refine z_iconst (v := 0) C d_Md_spread_4 (by decide) ?_
  refine z_istore (lv' := [(4, .int (0 : Int32)), (3, .int x0), (2, .int (0 : Int32)), (0, .int x0), (1, .int x1)]) C d_Md_spread_5 (by decide) rfl ?_
  refine z_lv [4, 2, 1, 0] rfl ?_
  obtain ⟨y_1, h_2, hf⟩ := zb1_elim hf
  refine k_Md_spread_l7_run C hr h_2 ?_
  refine z_iload_n C d_Md_spread_45 rfl 0 rfl ?_
  cases hf
  exact z_iret C hr d_Md_spread_46
theorem c_Md_spread {l : Launch} {D : va_G} {cI cL : ClassId} {rr x0 x1 : Int32} (hf : f_Md_spread x0 x1 = some rr) : zM l y_Md_spread (Cond.code y_Md_spread b_Md_spread 5 (some .int) :: zT) rm_Md_spread D vwCl [(cI, .int), (cL, .long)] [.int x0, .int x1] [] [] (some (.int rr)) :=
  zM.intro (by decide) rfl (fun _ h => List.mem_cons_of_mem _ h) (Nat.le_of_ble_eq_true rfl) (fun _ _ _ _ _ _ _ C hr _ => k_Md_spread C hr hf)
def rm_Md_timesRoot : Room := { frames := 0, cells := 0, slots := 0, locals := 0 }
/-- PathSumsModel.timesRoot()V -/
def f_Md_timesRoot (v_root : Nat → Int64) : (Nat → Int64) :=
  zlet (vp_updL v_root (0 : Int32).toNatClampNeg ((v_root (1 : Int32).toNatClampNeg) - (v_root (3 : Int32).toNatClampNeg))) fun u_1 =>
  zlet (vp_updL u_1 (1 : Int32).toNatClampNeg ((v_root (0 : Int32).toNatClampNeg) + (v_root (2 : Int32).toNatClampNeg))) fun u_2 =>
  zlet (vp_updL u_2 (2 : Int32).toNatClampNeg ((v_root (1 : Int32).toNatClampNeg) + (v_root (3 : Int32).toNatClampNeg))) fun u_3 =>
  zlet (vp_updL u_3 (3 : Int32).toNatClampNeg ((v_root (2 : Int32).toNatClampNeg) - (v_root (0 : Int32).toNatClampNeg))) fun u_4 =>
  u_4
set_option maxRecDepth 100000 in
set_option maxHeartbeats 4000000 in
theorem k_Md_timesRoot {p : Program} {l : Launch} {e : Env} {s : State} {m : MethodId} {args : Array Value} {below : List Frame} {meth : Method} {c : Code} {D : va_G} {cI cL : ClassId} {h_this h_this_number h_this_set h_this_constant h_this_ruleKind h_this_ruleBit h_this_ruleOther h_this_oldSet h_this_oldNumber h_this_allSets h_this_allNumbers h_this_root : Nat} {v_thrown v_wires v_isOpen v_isEmpty v_came v_there v_halves v_rules v_alone v_halfBits v_allMany : Int32} {v_root o_root : Nat → Int64} (C : zC p s m args meth c b_Md_timesRoot 9 R_Md D vwCl [(cI, .int), (cL, .long)] (zA [h_this, h_this_root] s.heap.size)) (hr : meth.sig.returnType = none) (hf : f_Md_timesRoot v_root = o_root) : ZV p l e rm_Md_timesRoot s m args below meth c 9 D (none) [(h_this, .inr (5, [.int v_thrown, .int v_wires, .int v_isOpen, .int v_isEmpty, .int v_came, .int v_there, .int v_halves, .ref h_this_number, .ref h_this_set, .ref h_this_constant, .int v_rules, .ref h_this_ruleKind, .ref h_this_ruleBit, .ref h_this_ruleOther, .int v_alone, .int v_halfBits, .ref h_this_oldSet, .ref h_this_oldNumber, .ref h_this_allSets, .ref h_this_allNumbers, .int v_allMany, .ref h_this_root])), (h_this_root, .inl (cL, 5, .inr (.inl o_root)))] [h_this, h_this_root] [(h_this, .inr (5, [.int v_thrown, .int v_wires, .int v_isOpen, .int v_isEmpty, .int v_came, .int v_there, .int v_halves, .ref h_this_number, .ref h_this_set, .ref h_this_constant, .int v_rules, .ref h_this_ruleKind, .ref h_this_ruleBit, .ref h_this_ruleOther, .int v_alone, .int v_halfBits, .ref h_this_oldSet, .ref h_this_oldNumber, .ref h_this_allSets, .ref h_this_allNumbers, .int v_allMany, .ref h_this_root])), (h_this_root, .inl (cL, 5, .inr (.inl v_root)))] 0 [(0, .ref h_this)] [] := by
  unfold f_Md_timesRoot at hf
  refine z_aload_n C d_Md_timesRoot_0 rfl 0 rfl ?_
  refine z_get C iw_Md 0 rfl rfl 21 (by decide) zw_519 rfl d_Md_timesRoot_1 ?_
  refine z_iconst (v := 0) C d_Md_timesRoot_4 (by decide) ?_
  refine z_lald C 1 1 rfl rfl (by decide) d_Md_timesRoot_5 ?_
  refine z_lstore_n (lv' := [(1, None), (0, .ref h_this)]) C d_Md_timesRoot_6 rfl (by decide) rfl ?_
  refine z_aload_n C d_Md_timesRoot_7 rfl 1 rfl ?_
  refine z_get C iw_Md 0 rfl rfl 21 (by decide) zw_519 rfl d_Md_timesRoot_8 ?_
  refine z_iconst (v := 1) C d_Md_timesRoot_11 (by decide) ?_
  refine z_lald C 1 1 rfl rfl (by decide) d_Md_timesRoot_12 ?_
  refine z_lstore_n (lv' := [(3, None), (1, None), (0, .ref h_this)]) C d_Md_timesRoot_13 rfl (by decide) rfl ?_
  refine z_aload_n C d_Md_timesRoot_14 rfl 2 rfl ?_
  refine z_get C iw_Md 0 rfl rfl 21 (by decide) zw_519 rfl d_Md_timesRoot_15 ?_
  refine z_iconst (v := 2) C d_Md_timesRoot_18 (by decide) ?_
  refine z_lald C 1 1 rfl rfl (by decide) d_Md_timesRoot_19 ?_
  refine z_lstore (lv' := [(5, None), (3, None), (1, None), (0, .ref h_this)]) C d_Md_timesRoot_20 (by decide) rfl ?_
  refine z_aload_n C d_Md_timesRoot_22 rfl 3 rfl ?_
  refine z_get C iw_Md 0 rfl rfl 21 (by decide) zw_519 rfl d_Md_timesRoot_23 ?_
  refine z_iconst (v := 3) C d_Md_timesRoot_26 (by decide) ?_
  refine z_lald C 1 1 rfl rfl (by decide) d_Md_timesRoot_27 ?_
  refine z_lstore (lv' := [(7, None), (5, None), (3, None), (1, None), (0, .ref h_this)]) C d_Md_timesRoot_28 (by decide) rfl ?_
  refine z_aload_n C d_Md_timesRoot_30 rfl 4 rfl ?_
  refine z_get C iw_Md 0 rfl rfl 21 (by decide) zw_519 rfl d_Md_timesRoot_31 ?_
  refine z_iconst (v := 0) C d_Md_timesRoot_34 (by decide) ?_
  refine z_lload_n C d_Md_timesRoot_35 rfl 2 rfl ?_
  refine z_lload C d_Md_timesRoot_36 0 rfl ?_
  refine z_lsub C d_Md_timesRoot_38 ?_
  obtain ⟨u_1, eu_1⟩ : ∃ u : Nat → Int64, u = vp_updL v_root (0 : Int32).toNatClampNeg ((v_root (1 : Int32).toNatClampNeg) - (v_root (3 : Int32).toNatClampNeg)) := ⟨_, rfl⟩
  have hf := zlet_at eu_1 hf
  refine z_last (ws' := [(h_this, .inr (5, [.int v_thrown, .int v_wires, .int v_isOpen, .int v_isEmpty, .int v_came, .int v_there, .int v_halves, .ref h_this_number, .ref h_this_set, .ref h_this_constant, .int v_rules, .ref h_this_ruleKind, .ref h_this_ruleBit, .ref h_this_ruleOther, .int v_alone, .int v_halfBits, .ref h_this_oldSet, .ref h_this_oldNumber, .ref h_this_allSets, .ref h_this_allNumbers, .int v_allMany, .ref h_this_root])), (h_this_root, .inl (cL, 5, .inr (.inl u_1)))]) C 1 1 rfl rfl (by decide) d_Md_timesRoot_39 (by rw [eu_1]; rfl) ?_
  refine z_aload_n C d_Md_timesRoot_40 rfl 4 rfl ?_
  refine z_get C iw_Md 0 rfl rfl 21 (by decide) zw_519 rfl d_Md_timesRoot_41 ?_
  refine z_iconst (v := 1) C d_Md_timesRoot_44 (by decide) ?_
  refine z_lload_n C d_Md_timesRoot_45 rfl 3 rfl ?_
  refine z_lload C d_Md_timesRoot_46 1 rfl ?_
  refine z_ladd C d_Md_timesRoot_48 ?_
  obtain ⟨u_2, eu_2⟩ : ∃ u : Nat → Int64, u = vp_updL u_1 (1 : Int32).toNatClampNeg ((v_root (0 : Int32).toNatClampNeg) + (v_root (2 : Int32).toNatClampNeg)) := ⟨_, rfl⟩
  have hf := zlet_at eu_2 hf
  refine z_last (ws' := [(h_this, .inr (5, [.int v_thrown, .int v_wires, .int v_isOpen, .int v_isEmpty, .int v_came, .int v_there, .int v_halves, .ref h_this_number, .ref h_this_set, .ref h_this_constant, .int v_rules, .ref h_this_ruleKind, .ref h_this_ruleBit, .ref h_this_ruleOther, .int v_alone, .int v_halfBits, .ref h_this_oldSet, .ref h_this_oldNumber, .ref h_this_allSets, .ref h_this_allNumbers, .int v_allMany, .ref h_this_root])), (h_this_root, .inl (cL, 5, .inr (.inl u_2)))]) C 1 1 rfl rfl (by decide) d_Md_timesRoot_49 (by rw [eu_2]; rfl) ?_
  refine z_aload_n C d_Md_timesRoot_50 rfl 4 rfl ?_
  refine z_get C iw_Md 0 rfl rfl 21 (by decide) zw_519 rfl d_Md_timesRoot_51 ?_
  refine z_iconst (v := 2) C d_Md_timesRoot_54 (by decide) ?_
  refine z_lload_n C d_Md_timesRoot_55 rfl 2 rfl ?_
  refine z_lload C d_Md_timesRoot_56 0 rfl ?_
  refine z_ladd C d_Md_timesRoot_58 ?_
  obtain ⟨u_3, eu_3⟩ : ∃ u : Nat → Int64, u = vp_updL u_2 (2 : Int32).toNatClampNeg ((v_root (1 : Int32).toNatClampNeg) + (v_root (3 : Int32).toNatClampNeg)) := ⟨_, rfl⟩
  have hf := zlet_at eu_3 hf
  refine z_last (ws' := [(h_this, .inr (5, [.int v_thrown, .int v_wires, .int v_isOpen, .int v_isEmpty, .int v_came, .int v_there, .int v_halves, .ref h_this_number, .ref h_this_set, .ref h_this_constant, .int v_rules, .ref h_this_ruleKind, .ref h_this_ruleBit, .ref h_this_ruleOther, .int v_alone, .int v_halfBits, .ref h_this_oldSet, .ref h_this_oldNumber, .ref h_this_allSets, .ref h_this_allNumbers, .int v_allMany, .ref h_this_root])), (h_this_root, .inl (cL, 5, .inr (.inl u_3)))]) C 1 1 rfl rfl (by decide) d_Md_timesRoot_59 (by rw [eu_3]; rfl) ?_
  refine z_aload_n C d_Md_timesRoot_60 rfl 4 rfl ?_
  refine z_get C iw_Md 0 rfl rfl 21 (by decide) zw_519 rfl d_Md_timesRoot_61 ?_
  refine z_iconst (v := 3) C d_Md_timesRoot_64 (by decide) ?_
  refine z_lload C d_Md_timesRoot_65 1 rfl ?_
  refine z_lload_n C d_Md_timesRoot_67 rfl 3 rfl ?_
  refine z_lsub C d_Md_timesRoot_68 ?_
  obtain ⟨u_4, eu_4⟩ : ∃ u : Nat → Int64, u = vp_updL u_3 (3 : Int32).toNatClampNeg ((v_root (2 : Int32).toNatClampNeg) - (v_root (0 : Int32).toNatClampNeg)) := ⟨_, rfl⟩
  have hf := zlet_at eu_4 hf
  refine z_last (ws' := [(h_this, .inr (5, [.int v_thrown, .int v_wires, .int v_isOpen, .int v_isEmpty, .int v_came, .int v_there, .int v_halves, .ref h_this_number, .ref h_this_set, .ref h_this_constant, .int v_rules, .ref h_this_ruleKind, .ref h_this_ruleBit, .ref h_this_ruleOther, .int v_alone, .int v_halfBits, .ref h_this_oldSet, .ref h_this_oldNumber, .ref h_this_allSets, .ref h_this_allNumbers, .int v_allMany, .ref h_this_root])), (h_this_root, .inl (cL, 5, .inr (.inl u_4)))]) C 1 1 rfl rfl (by decide) d_Md_timesRoot_69 (by rw [eu_4]; rfl) ?_
  subst hf
  exact z_vret C hr d_Md_timesRoot_70
theorem c_Md_timesRoot {l : Launch} {D : va_G} {cI cL : ClassId} {h_this h_this_number h_this_set h_this_constant h_this_ruleKind h_this_ruleBit h_this_ruleOther h_this_oldSet h_this_oldNumber h_this_allSets h_this_allNumbers h_this_root : Nat} {v_thrown v_wires v_isOpen v_isEmpty v_came v_there v_halves v_rules v_alone v_halfBits v_allMany : Int32} {v_root o_root : Nat → Int64} (hf : f_Md_timesRoot v_root = o_root) : zM l y_Md_timesRoot (Cond.code y_Md_timesRoot b_Md_timesRoot 9 none :: zT) rm_Md_timesRoot D vwCl [(cI, .int), (cL, .long)] [.ref h_this] [(h_this, .inr (5, [.int v_thrown, .int v_wires, .int v_isOpen, .int v_isEmpty, .int v_came, .int v_there, .int v_halves, .ref h_this_number, .ref h_this_set, .ref h_this_constant, .int v_rules, .ref h_this_ruleKind, .ref h_this_ruleBit, .ref h_this_ruleOther, .int v_alone, .int v_halfBits, .ref h_this_oldSet, .ref h_this_oldNumber, .ref h_this_allSets, .ref h_this_allNumbers, .int v_allMany, .ref h_this_root])), (h_this_root, .inl (cL, 5, .inr (.inl v_root)))] [(h_this, .inr (5, [.int v_thrown, .int v_wires, .int v_isOpen, .int v_isEmpty, .int v_came, .int v_there, .int v_halves, .ref h_this_number, .ref h_this_set, .ref h_this_constant, .int v_rules, .ref h_this_ruleKind, .ref h_this_ruleBit, .ref h_this_ruleOther, .int v_alone, .int v_halfBits, .ref h_this_oldSet, .ref h_this_oldNumber, .ref h_this_allSets, .ref h_this_allNumbers, .int v_allMany, .ref h_this_root])), (h_this_root, .inl (cL, 5, .inr (.inl o_root)))] (none) :=
  zM.intro (by decide) rfl (fun _ h => List.mem_cons_of_mem _ h) (Nat.le_of_ble_eq_true rfl) (fun _ _ _ _ _ _ _ C hr _ => k_Md_timesRoot C hr hf)
def rm_Md_byRoot : Room := { frames := 1, cells := 0, slots := 0, locals := 28 }
def f_Md_byRoot_l52 (x1 : Int32) (v_root : Nat → Int64) : Option ((Int32 × (Nat → Int64)) ⊕ ((Nat → Int64))) :=
  if (4 : Int32) ≤ x1 then (
    some (.inr (v_root)))
  else (
    if x1 < 0 ∨ 5 ≤ x1.toNatClampNeg then none else
    if x1 < 0 ∨ 5 ≤ x1.toNatClampNeg then none else
    zlet (vp_updL v_root x1.toNatClampNeg ((v_root x1.toNatClampNeg) / (2 : Int64))) fun u_4 =>
    zlet (x1 + 1) fun y_5 =>
    some (.inl (y_5, u_4)))
set_option maxRecDepth 100000 in
set_option maxHeartbeats 4000000 in
theorem k_Md_byRoot_l52 {p : Program} {l : Launch} {e : Env} {s : State} {m : MethodId} {args : Array Value} {below : List Frame} {meth : Method} {c : Code} {D : va_G} {cI cL : ClassId} {h_this h_this_number h_this_set h_this_constant h_this_ruleKind h_this_ruleBit h_this_ruleOther h_this_oldSet h_this_oldNumber h_this_allSets h_this_allNumbers h_this_root : Nat} {v_thrown v_wires v_isOpen v_isEmpty v_came v_there v_halves v_rules v_alone v_halfBits v_allMany rr x1 : Int32} {v_root o_root : Nat → Int64} (C : zC p s m args meth c b_Md_byRoot 2 R_Md D vwCl [(cI, .int), (cL, .long)] (zA [h_this, h_this_root] s.heap.size)) (hr : meth.sig.returnType = some .boolean) {z : (Int32 × (Nat → Int64)) ⊕ ((Nat → Int64))} (hf : f_Md_byRoot_l52 x1 v_root = some z) (hK : zcase (fun q => ZV p l e rm_Md_byRoot s m args below meth c 2 D (some (.int rr)) [(h_this, .inr (5, [.int v_thrown, .int v_wires, .int v_isOpen, .int v_isEmpty, .int v_came, .int v_there, .int v_halves, .ref h_this_number, .ref h_this_set, .ref h_this_constant, .int v_rules, .ref h_this_ruleKind, .ref h_this_ruleBit, .ref h_this_ruleOther, .int v_alone, .int v_halfBits, .ref h_this_oldSet, .ref h_this_oldNumber, .ref h_this_allSets, .ref h_this_allNumbers, .int v_allMany, .ref h_this_root])), (h_this_root, .inl (cL, 5, .inr (.inl o_root)))] [h_this, h_this_root] [(h_this, .inr (5, [.int v_thrown, .int v_wires, .int v_isOpen, .int v_isEmpty, .int v_came, .int v_there, .int v_halves, .ref h_this_number, .ref h_this_set, .ref h_this_constant, .int v_rules, .ref h_this_ruleKind, .ref h_this_ruleBit, .ref h_this_ruleOther, .int v_alone, .int v_halfBits, .ref h_this_oldSet, .ref h_this_oldNumber, .ref h_this_allSets, .ref h_this_allNumbers, .int v_allMany, .ref h_this_root])), (h_this_root, .inl (cL, 5, .inr (.inl q.2)))] 52 [(0, .ref h_this), (1, .int q.1)] []) (fun q => ZV p l e rm_Md_byRoot s m args below meth c 2 D (some (.int rr)) [(h_this, .inr (5, [.int v_thrown, .int v_wires, .int v_isOpen, .int v_isEmpty, .int v_came, .int v_there, .int v_halves, .ref h_this_number, .ref h_this_set, .ref h_this_constant, .int v_rules, .ref h_this_ruleKind, .ref h_this_ruleBit, .ref h_this_ruleOther, .int v_alone, .int v_halfBits, .ref h_this_oldSet, .ref h_this_oldNumber, .ref h_this_allSets, .ref h_this_allNumbers, .int v_allMany, .ref h_this_root])), (h_this_root, .inl (cL, 5, .inr (.inl o_root)))] [h_this, h_this_root] [(h_this, .inr (5, [.int v_thrown, .int v_wires, .int v_isOpen, .int v_isEmpty, .int v_came, .int v_there, .int v_halves, .ref h_this_number, .ref h_this_set, .ref h_this_constant, .int v_rules, .ref h_this_ruleKind, .ref h_this_ruleBit, .ref h_this_ruleOther, .int v_alone, .int v_halfBits, .ref h_this_oldSet, .ref h_this_oldNumber, .ref h_this_allSets, .ref h_this_allNumbers, .int v_allMany, .ref h_this_root])), (h_this_root, .inl (cL, 5, .inr (.inl q)))] 79 [] []) z) : ZV p l e rm_Md_byRoot s m args below meth c 2 D (some (.int rr)) [(h_this, .inr (5, [.int v_thrown, .int v_wires, .int v_isOpen, .int v_isEmpty, .int v_came, .int v_there, .int v_halves, .ref h_this_number, .ref h_this_set, .ref h_this_constant, .int v_rules, .ref h_this_ruleKind, .ref h_this_ruleBit, .ref h_this_ruleOther, .int v_alone, .int v_halfBits, .ref h_this_oldSet, .ref h_this_oldNumber, .ref h_this_allSets, .ref h_this_allNumbers, .int v_allMany, .ref h_this_root])), (h_this_root, .inl (cL, 5, .inr (.inl o_root)))] [h_this, h_this_root] [(h_this, .inr (5, [.int v_thrown, .int v_wires, .int v_isOpen, .int v_isEmpty, .int v_came, .int v_there, .int v_halves, .ref h_this_number, .ref h_this_set, .ref h_this_constant, .int v_rules, .ref h_this_ruleKind, .ref h_this_ruleBit, .ref h_this_ruleOther, .int v_alone, .int v_halfBits, .ref h_this_oldSet, .ref h_this_oldNumber, .ref h_this_allSets, .ref h_this_allNumbers, .int v_allMany, .ref h_this_root])), (h_this_root, .inl (cL, 5, .inr (.inl v_root)))] 52 [(0, .ref h_this), (1, .int x1)] [] := by
  unfold f_Md_byRoot_l52 at hf
  refine z_iload_n C d_Md_byRoot_52 rfl 1 rfl ?_
  refine z_iconst (v := 4) C d_Md_byRoot_53 (by decide) ?_
  refine z_icmp_ge (tgt := 79) C d_Md_byRoot_54 (by decide) (fun c_1 => ?_) (fun c_1 => ?_)
  · have hf := zif_pos c_1 hf
    refine z_lv [] rfl ?_
    cases hf
    exact hK
  · have hf := zif_neg c_1 hf
    refine z_aload_n C d_Md_byRoot_57 rfl 0 rfl ?_
    refine z_get C iw_Md 0 rfl rfl 21 (by decide) zw_519 rfl d_Md_byRoot_58 ?_
    refine z_iload_n C d_Md_byRoot_61 rfl 1 rfl ?_
    refine z_aload_n C d_Md_byRoot_62 rfl 0 rfl ?_
    refine z_get C iw_Md 0 rfl rfl 21 (by decide) zw_519 rfl d_Md_byRoot_63 ?_
    refine z_iload_n C d_Md_byRoot_66 rfl 1 rfl ?_
    obtain ⟨g_2, hf⟩ := zguard hf
    refine z_lald C 1 1 rfl rfl g_2 d_Md_byRoot_67 ?_
    refine z_ldc2 (v := 2) C zw_720 d_Md_byRoot_68 ?_
    refine z_ldiv C d_Md_byRoot_71 (by decide) ?_
    obtain ⟨g_3, hf⟩ := zguard hf
    obtain ⟨u_4, eu_4⟩ : ∃ u : Nat → Int64, u = vp_updL v_root x1.toNatClampNeg ((v_root x1.toNatClampNeg) / (2 : Int64)) := ⟨_, rfl⟩
    have hf := zlet_at eu_4 hf
    refine z_last (ws' := [(h_this, .inr (5, [.int v_thrown, .int v_wires, .int v_isOpen, .int v_isEmpty, .int v_came, .int v_there, .int v_halves, .ref h_this_number, .ref h_this_set, .ref h_this_constant, .int v_rules, .ref h_this_ruleKind, .ref h_this_ruleBit, .ref h_this_ruleOther, .int v_alone, .int v_halfBits, .ref h_this_oldSet, .ref h_this_oldNumber, .ref h_this_allSets, .ref h_this_allNumbers, .int v_allMany, .ref h_this_root])), (h_this_root, .inl (cL, 5, .inr (.inl u_4)))]) C 1 1 rfl rfl g_3 d_Md_byRoot_72 (by rw [eu_4]; rfl) ?_
    obtain ⟨y_5, ey_5⟩ : ∃ y : Int32, y = x1 + 1 := ⟨_, rfl⟩
    have hf := zlet_at ey_5 hf
    refine z_iinc (v := y_5) (lv' := [(1, .int y_5), (0, .ref h_this)]) C d_Md_byRoot_73 (k := 1) rfl (by rw [ey_5]; rfl) (by decide) rfl ?_
    refine z_goto (tgt := 52) C d_Md_byRoot_76 (by decide) ?_
    refine z_lv [1, 0] rfl ?_
    cases hf
    exact hK
theorem k_Md_byRoot_l52_run {p : Program} {l : Launch} {e : Env} {s : State} {m : MethodId} {args : Array Value} {below : List Frame} {meth : Method} {c : Code} {D : va_G} {cI cL : ClassId} {h_this h_this_number h_this_set h_this_constant h_this_ruleKind h_this_ruleBit h_this_ruleOther h_this_oldSet h_this_oldNumber h_this_allSets h_this_allNumbers h_this_root : Nat} {v_thrown v_wires v_isOpen v_isEmpty v_came v_there v_halves v_rules v_alone v_halfBits v_allMany rr x1 : Int32} {v_root o_root : Nat → Int64} (C : zC p s m args meth c b_Md_byRoot 2 R_Md D vwCl [(cI, .int), (cL, .long)] (zA [h_this, h_this_root] s.heap.size)) (hr : meth.sig.returnType = some .boolean) {o0 : Nat → Int64} (hf : zloop (fun q => f_Md_byRoot_l52 q.1 q.2) zF (x1, v_root) = some o0) (hK : ZV p l e rm_Md_byRoot s m args below meth c 2 D (some (.int rr)) [(h_this, .inr (5, [.int v_thrown, .int v_wires, .int v_isOpen, .int v_isEmpty, .int v_came, .int v_there, .int v_halves, .ref h_this_number, .ref h_this_set, .ref h_this_constant, .int v_rules, .ref h_this_ruleKind, .ref h_this_ruleBit, .ref h_this_ruleOther, .int v_alone, .int v_halfBits, .ref h_this_oldSet, .ref h_this_oldNumber, .ref h_this_allSets, .ref h_this_allNumbers, .int v_allMany, .ref h_this_root])), (h_this_root, .inl (cL, 5, .inr (.inl o_root)))] [h_this, h_this_root] [(h_this, .inr (5, [.int v_thrown, .int v_wires, .int v_isOpen, .int v_isEmpty, .int v_came, .int v_there, .int v_halves, .ref h_this_number, .ref h_this_set, .ref h_this_constant, .int v_rules, .ref h_this_ruleKind, .ref h_this_ruleBit, .ref h_this_ruleOther, .int v_alone, .int v_halfBits, .ref h_this_oldSet, .ref h_this_oldNumber, .ref h_this_allSets, .ref h_this_allNumbers, .int v_allMany, .ref h_this_root])), (h_this_root, .inl (cL, 5, .inr (.inl o0)))] 79 [] []) : ZV p l e rm_Md_byRoot s m args below meth c 2 D (some (.int rr)) [(h_this, .inr (5, [.int v_thrown, .int v_wires, .int v_isOpen, .int v_isEmpty, .int v_came, .int v_there, .int v_halves, .ref h_this_number, .ref h_this_set, .ref h_this_constant, .int v_rules, .ref h_this_ruleKind, .ref h_this_ruleBit, .ref h_this_ruleOther, .int v_alone, .int v_halfBits, .ref h_this_oldSet, .ref h_this_oldNumber, .ref h_this_allSets, .ref h_this_allNumbers, .int v_allMany, .ref h_this_root])), (h_this_root, .inl (cL, 5, .inr (.inl o_root)))] [h_this, h_this_root] [(h_this, .inr (5, [.int v_thrown, .int v_wires, .int v_isOpen, .int v_isEmpty, .int v_came, .int v_there, .int v_halves, .ref h_this_number, .ref h_this_set, .ref h_this_constant, .int v_rules, .ref h_this_ruleKind, .ref h_this_ruleBit, .ref h_this_ruleOther, .int v_alone, .int v_halfBits, .ref h_this_oldSet, .ref h_this_oldNumber, .ref h_this_allSets, .ref h_this_allNumbers, .int v_allMany, .ref h_this_root])), (h_this_root, .inl (cL, 5, .inr (.inl v_root)))] 52 [(0, .ref h_this), (1, .int x1)] [] :=
  zloop_run (P := fun q => ZV p l e rm_Md_byRoot s m args below meth c 2 D (some (.int rr)) [(h_this, .inr (5, [.int v_thrown, .int v_wires, .int v_isOpen, .int v_isEmpty, .int v_came, .int v_there, .int v_halves, .ref h_this_number, .ref h_this_set, .ref h_this_constant, .int v_rules, .ref h_this_ruleKind, .ref h_this_ruleBit, .ref h_this_ruleOther, .int v_alone, .int v_halfBits, .ref h_this_oldSet, .ref h_this_oldNumber, .ref h_this_allSets, .ref h_this_allNumbers, .int v_allMany, .ref h_this_root])), (h_this_root, .inl (cL, 5, .inr (.inl o_root)))] [h_this, h_this_root] [(h_this, .inr (5, [.int v_thrown, .int v_wires, .int v_isOpen, .int v_isEmpty, .int v_came, .int v_there, .int v_halves, .ref h_this_number, .ref h_this_set, .ref h_this_constant, .int v_rules, .ref h_this_ruleKind, .ref h_this_ruleBit, .ref h_this_ruleOther, .int v_alone, .int v_halfBits, .ref h_this_oldSet, .ref h_this_oldNumber, .ref h_this_allSets, .ref h_this_allNumbers, .int v_allMany, .ref h_this_root])), (h_this_root, .inl (cL, 5, .inr (.inl q.2)))] 52 [(0, .ref h_this), (1, .int q.1)] []) (K := (fun q => ZV p l e rm_Md_byRoot s m args below meth c 2 D (some (.int rr)) [(h_this, .inr (5, [.int v_thrown, .int v_wires, .int v_isOpen, .int v_isEmpty, .int v_came, .int v_there, .int v_halves, .ref h_this_number, .ref h_this_set, .ref h_this_constant, .int v_rules, .ref h_this_ruleKind, .ref h_this_ruleBit, .ref h_this_ruleOther, .int v_alone, .int v_halfBits, .ref h_this_oldSet, .ref h_this_oldNumber, .ref h_this_allSets, .ref h_this_allNumbers, .int v_allMany, .ref h_this_root])), (h_this_root, .inl (cL, 5, .inr (.inl o_root)))] [h_this, h_this_root] [(h_this, .inr (5, [.int v_thrown, .int v_wires, .int v_isOpen, .int v_isEmpty, .int v_came, .int v_there, .int v_halves, .ref h_this_number, .ref h_this_set, .ref h_this_constant, .int v_rules, .ref h_this_ruleKind, .ref h_this_ruleBit, .ref h_this_ruleOther, .int v_alone, .int v_halfBits, .ref h_this_oldSet, .ref h_this_oldNumber, .ref h_this_allSets, .ref h_this_allNumbers, .int v_allMany, .ref h_this_root])), (h_this_root, .inl (cL, 5, .inr (.inl q)))] 79 [] [])) (fun q z hz hK => k_Md_byRoot_l52 C hr hz hK) zF _ (o0) hf hK
/-- PathSumsModel.byRoot()Z -/
def f_Md_byRoot (v_root : Nat → Int64) : Option (Int32 × (Nat → Int64)) :=
  if (lg_cmp (((v_root (0 : Int32).toNatClampNeg) + (v_root (2 : Int32).toNatClampNeg)) - ((v_root (0 : Int32).toNatClampNeg) + (v_root (2 : Int32).toNatClampNeg)) / (2 : Int64) * (2 : Int64)) (0 : Int64)) = 0 then (
    if (lg_cmp (((v_root (1 : Int32).toNatClampNeg) + (v_root (3 : Int32).toNatClampNeg)) - ((v_root (1 : Int32).toNatClampNeg) + (v_root (3 : Int32).toNatClampNeg)) / (2 : Int64) * (2 : Int64)) (0 : Int64)) = 0 then (
      zl1 (f_Md_timesRoot v_root) fun q_4 =>
      zb1 (zloop (fun q => f_Md_byRoot_l52 q.1 q.2) zF ((0 : Int32), q_4)) fun q_5 =>
      some ((1 : Int32), q_5))
    else (
      some ((0 : Int32), v_root)))
  else (
    some ((0 : Int32), v_root))
set_option maxRecDepth 100000 in
set_option maxHeartbeats 4000000 in
theorem k_Md_byRoot {p : Program} {l : Launch} {e : Env} {s : State} {m : MethodId} {args : Array Value} {below : List Frame} {meth : Method} {c : Code} {D : va_G} {cI cL : ClassId} {h_this h_this_number h_this_set h_this_constant h_this_ruleKind h_this_ruleBit h_this_ruleOther h_this_oldSet h_this_oldNumber h_this_allSets h_this_allNumbers h_this_root : Nat} {v_thrown v_wires v_isOpen v_isEmpty v_came v_there v_halves v_rules v_alone v_halfBits v_allMany rr : Int32} {v_root o_root : Nat → Int64} (C : zC p s m args meth c b_Md_byRoot 2 R_Md D vwCl [(cI, .int), (cL, .long)] (zA [h_this, h_this_root] s.heap.size)) (hr : meth.sig.returnType = some .boolean) (hf : f_Md_byRoot v_root = some (rr, o_root)) : ZV p l e rm_Md_byRoot s m args below meth c 2 D (some (.int rr)) [(h_this, .inr (5, [.int v_thrown, .int v_wires, .int v_isOpen, .int v_isEmpty, .int v_came, .int v_there, .int v_halves, .ref h_this_number, .ref h_this_set, .ref h_this_constant, .int v_rules, .ref h_this_ruleKind, .ref h_this_ruleBit, .ref h_this_ruleOther, .int v_alone, .int v_halfBits, .ref h_this_oldSet, .ref h_this_oldNumber, .ref h_this_allSets, .ref h_this_allNumbers, .int v_allMany, .ref h_this_root])), (h_this_root, .inl (cL, 5, .inr (.inl o_root)))] [h_this, h_this_root] [(h_this, .inr (5, [.int v_thrown, .int v_wires, .int v_isOpen, .int v_isEmpty, .int v_came, .int v_there, .int v_halves, .ref h_this_number, .ref h_this_set, .ref h_this_constant, .int v_rules, .ref h_this_ruleKind, .ref h_this_ruleBit, .ref h_this_ruleOther, .int v_alone, .int v_halfBits, .ref h_this_oldSet, .ref h_this_oldNumber, .ref h_this_allSets, .ref h_this_allNumbers, .int v_allMany, .ref h_this_root])), (h_this_root, .inl (cL, 5, .inr (.inl v_root)))] 0 [(0, .ref h_this)] [] := by
  unfold f_Md_byRoot at hf
  refine z_aload_n C d_Md_byRoot_0 rfl 0 rfl ?_
  refine z_get C iw_Md 0 rfl rfl 21 (by decide) zw_519 rfl d_Md_byRoot_1 ?_
  refine z_iconst (v := 0) C d_Md_byRoot_4 (by decide) ?_
  refine z_lald C 1 1 rfl rfl (by decide) d_Md_byRoot_5 ?_
  refine z_aload_n C d_Md_byRoot_6 rfl 0 rfl ?_
  refine z_get C iw_Md 0 rfl rfl 21 (by decide) zw_519 rfl d_Md_byRoot_7 ?_
  refine z_iconst (v := 2) C d_Md_byRoot_10 (by decide) ?_
  refine z_lald C 1 1 rfl rfl (by decide) d_Md_byRoot_11 ?_
  refine z_ladd C d_Md_byRoot_12 ?_
  refine z_ldc2 (v := 2) C zw_720 d_Md_byRoot_13 ?_
  refine z_lrem C d_Md_byRoot_16 (by decide) ?_
  refine z_lconst (v := 0) C d_Md_byRoot_17 (by decide) ?_
  refine z_lcmp C d_Md_byRoot_18 ?_
  refine z_if_ne (tgt := 44) C d_Md_byRoot_19 (by decide) (fun c_1 => ?_) (fun c_1 => ?_)
  · have hf := zif_neg c_1 hf
    refine z_iconst (v := 0) C d_Md_byRoot_44 (by decide) ?_
    cases hf
    exact z_zret C hr rfl d_Md_byRoot_45
  · have hf := zif_pos c_1 hf
    refine z_aload_n C d_Md_byRoot_22 rfl 0 rfl ?_
    refine z_get C iw_Md 0 rfl rfl 21 (by decide) zw_519 rfl d_Md_byRoot_23 ?_
    refine z_iconst (v := 1) C d_Md_byRoot_26 (by decide) ?_
    refine z_lald C 1 1 rfl rfl (by decide) d_Md_byRoot_27 ?_
    refine z_aload_n C d_Md_byRoot_28 rfl 0 rfl ?_
    refine z_get C iw_Md 0 rfl rfl 21 (by decide) zw_519 rfl d_Md_byRoot_29 ?_
    refine z_iconst (v := 3) C d_Md_byRoot_32 (by decide) ?_
    refine z_lald C 1 1 rfl rfl (by decide) d_Md_byRoot_33 ?_
    refine z_ladd C d_Md_byRoot_34 ?_
    refine z_ldc2 (v := 2) C zw_720 d_Md_byRoot_35 ?_
    refine z_lrem C d_Md_byRoot_38 (by decide) ?_
    refine z_lconst (v := 0) C d_Md_byRoot_39 (by decide) ?_
    refine z_lcmp C d_Md_byRoot_40 ?_
    refine z_if_eq (tgt := 46) C d_Md_byRoot_41 (by decide) (fun c_2 => ?_) (fun c_2 => ?_)
    · have hf := zif_pos c_2 hf
      refine z_aload_n C d_Md_byRoot_46 rfl 0 rfl ?_
      obtain ⟨q_4, h_3, hf⟩ := zl1_elim hf
      refine z_callV (As := []) (rest := []) (ws' := [(h_this, .inr (5, [.int v_thrown, .int v_wires, .int v_isOpen, .int v_isEmpty, .int v_came, .int v_there, .int v_halves, .ref h_this_number, .ref h_this_set, .ref h_this_constant, .int v_rules, .ref h_this_ruleKind, .ref h_this_ruleBit, .ref h_this_ruleOther, .int v_alone, .int v_halfBits, .ref h_this_oldSet, .ref h_this_oldNumber, .ref h_this_allSets, .ref h_this_allNumbers, .int v_allMany, .ref h_this_root])), (h_this_root, .inl (cL, 5, .inr (.inl q_4)))]) C (c_Md_timesRoot h_3) mi_Md_timesRoot zw_712 (by decide) 0 rfl rfl [0, 1] (by decide) rfl rfl rfl rfl rfl (by decide) ⟨Nat.zero_le _, Nat.zero_le _⟩ d_Md_byRoot_47 ?_
      refine z_iconst (v := 0) C d_Md_byRoot_50 (by decide) ?_
      refine z_istore_n (lv' := [(1, .int (0 : Int32)), (0, .ref h_this)]) C d_Md_byRoot_51 rfl (by decide) rfl ?_
      refine z_lv [1, 0] rfl ?_
      obtain ⟨q_5, h_6, hf⟩ := zb1_elim hf
      refine k_Md_byRoot_l52_run C hr h_6 ?_
      refine z_iconst (v := 1) C d_Md_byRoot_79 (by decide) ?_
      cases hf
      exact z_zret C hr rfl d_Md_byRoot_80
    · have hf := zif_neg c_2 hf
      refine z_iconst (v := 0) C d_Md_byRoot_44 (by decide) ?_
      cases hf
      exact z_zret C hr rfl d_Md_byRoot_45
theorem c_Md_byRoot {l : Launch} {D : va_G} {cI cL : ClassId} {h_this h_this_number h_this_set h_this_constant h_this_ruleKind h_this_ruleBit h_this_ruleOther h_this_oldSet h_this_oldNumber h_this_allSets h_this_allNumbers h_this_root : Nat} {v_thrown v_wires v_isOpen v_isEmpty v_came v_there v_halves v_rules v_alone v_halfBits v_allMany rr : Int32} {v_root o_root : Nat → Int64} (hf : f_Md_byRoot v_root = some (rr, o_root)) : zM l y_Md_byRoot (Cond.code y_Md_byRoot b_Md_byRoot 2 (some .boolean) :: zT) rm_Md_byRoot D vwCl [(cI, .int), (cL, .long)] [.ref h_this] [(h_this, .inr (5, [.int v_thrown, .int v_wires, .int v_isOpen, .int v_isEmpty, .int v_came, .int v_there, .int v_halves, .ref h_this_number, .ref h_this_set, .ref h_this_constant, .int v_rules, .ref h_this_ruleKind, .ref h_this_ruleBit, .ref h_this_ruleOther, .int v_alone, .int v_halfBits, .ref h_this_oldSet, .ref h_this_oldNumber, .ref h_this_allSets, .ref h_this_allNumbers, .int v_allMany, .ref h_this_root])), (h_this_root, .inl (cL, 5, .inr (.inl v_root)))] [(h_this, .inr (5, [.int v_thrown, .int v_wires, .int v_isOpen, .int v_isEmpty, .int v_came, .int v_there, .int v_halves, .ref h_this_number, .ref h_this_set, .ref h_this_constant, .int v_rules, .ref h_this_ruleKind, .ref h_this_ruleBit, .ref h_this_ruleOther, .int v_alone, .int v_halfBits, .ref h_this_oldSet, .ref h_this_oldNumber, .ref h_this_allSets, .ref h_this_allNumbers, .int v_allMany, .ref h_this_root])), (h_this_root, .inl (cL, 5, .inr (.inl o_root)))] (some (.int rr)) :=
  zM.intro (by decide) rfl (fun _ h => List.mem_cons_of_mem _ h) (Nat.le_of_ble_eq_true rfl) (fun _ _ _ _ _ _ _ C hr _ => k_Md_byRoot C hr hf)
def rm_Md_settle : Room := { frames := 2, cells := 0, slots := 0, locals := 49 }
def f_Md_settle_l11 (v_halves : Int32) (v_root : Nat → Int64) : Option (((Nat → Int64)) ⊕ ((Nat → Int64))) :=
  if 0 ≤ (lg_cmp (v_root (4 : Int32).toNatClampNeg) (0 : Int64)) then (
    some (.inr (v_root)))
  else (
    zl1 (f_Md_timesRoot v_root) fun q_3 =>
    zlet (vp_updL q_3 (4 : Int32).toNatClampNeg ((q_3 (4 : Int32).toNatClampNeg) + (1 : Int64))) fun u_4 =>
    some (.inl (u_4)))
set_option maxRecDepth 100000 in
set_option maxHeartbeats 4000000 in
theorem k_Md_settle_l11 {p : Program} {l : Launch} {e : Env} {s : State} {m : MethodId} {args : Array Value} {below : List Frame} {meth : Method} {c : Code} {D : va_G} {cI cL : ClassId} {h_this h_this_number h_this_set h_this_constant h_this_ruleKind h_this_ruleBit h_this_ruleOther h_this_oldSet h_this_oldNumber h_this_allSets h_this_allNumbers h_this_root : Nat} {v_thrown v_wires v_isOpen v_isEmpty v_came v_there v_halves v_rules v_alone v_halfBits v_allMany : Int32} {v_root o_root : Nat → Int64} (C : zC p s m args meth c b_Md_settle 2 R_Md D vwCl [(cI, .int), (cL, .long)] (zA [h_this, h_this_root] s.heap.size)) (hr : meth.sig.returnType = none) {z : ((Nat → Int64)) ⊕ ((Nat → Int64))} (hf : f_Md_settle_l11 v_halves v_root = some z) (hK : zcase (fun q => ZV p l e rm_Md_settle s m args below meth c 2 D (none) [(h_this, .inr (5, [.int v_thrown, .int v_wires, .int v_isOpen, .int v_isEmpty, .int v_came, .int v_there, .int v_halves, .ref h_this_number, .ref h_this_set, .ref h_this_constant, .int v_rules, .ref h_this_ruleKind, .ref h_this_ruleBit, .ref h_this_ruleOther, .int v_alone, .int v_halfBits, .ref h_this_oldSet, .ref h_this_oldNumber, .ref h_this_allSets, .ref h_this_allNumbers, .int v_allMany, .ref h_this_root])), (h_this_root, .inl (cL, 5, .inr (.inl o_root)))] [h_this, h_this_root] [(h_this, .inr (5, [.int v_thrown, .int v_wires, .int v_isOpen, .int v_isEmpty, .int v_came, .int v_there, .int v_halves, .ref h_this_number, .ref h_this_set, .ref h_this_constant, .int v_rules, .ref h_this_ruleKind, .ref h_this_ruleBit, .ref h_this_ruleOther, .int v_alone, .int v_halfBits, .ref h_this_oldSet, .ref h_this_oldNumber, .ref h_this_allSets, .ref h_this_allNumbers, .int v_allMany, .ref h_this_root])), (h_this_root, .inl (cL, 5, .inr (.inl q)))] 11 [(0, .ref h_this)] []) (fun q => ZV p l e rm_Md_settle s m args below meth c 2 D (none) [(h_this, .inr (5, [.int v_thrown, .int v_wires, .int v_isOpen, .int v_isEmpty, .int v_came, .int v_there, .int v_halves, .ref h_this_number, .ref h_this_set, .ref h_this_constant, .int v_rules, .ref h_this_ruleKind, .ref h_this_ruleBit, .ref h_this_ruleOther, .int v_alone, .int v_halfBits, .ref h_this_oldSet, .ref h_this_oldNumber, .ref h_this_allSets, .ref h_this_allNumbers, .int v_allMany, .ref h_this_root])), (h_this_root, .inl (cL, 5, .inr (.inl o_root)))] [h_this, h_this_root] [(h_this, .inr (5, [.int v_thrown, .int v_wires, .int v_isOpen, .int v_isEmpty, .int v_came, .int v_there, .int v_halves, .ref h_this_number, .ref h_this_set, .ref h_this_constant, .int v_rules, .ref h_this_ruleKind, .ref h_this_ruleBit, .ref h_this_ruleOther, .int v_alone, .int v_halfBits, .ref h_this_oldSet, .ref h_this_oldNumber, .ref h_this_allSets, .ref h_this_allNumbers, .int v_allMany, .ref h_this_root])), (h_this_root, .inl (cL, 5, .inr (.inl q)))] 39 [(0, .ref h_this)] []) z) : ZV p l e rm_Md_settle s m args below meth c 2 D (none) [(h_this, .inr (5, [.int v_thrown, .int v_wires, .int v_isOpen, .int v_isEmpty, .int v_came, .int v_there, .int v_halves, .ref h_this_number, .ref h_this_set, .ref h_this_constant, .int v_rules, .ref h_this_ruleKind, .ref h_this_ruleBit, .ref h_this_ruleOther, .int v_alone, .int v_halfBits, .ref h_this_oldSet, .ref h_this_oldNumber, .ref h_this_allSets, .ref h_this_allNumbers, .int v_allMany, .ref h_this_root])), (h_this_root, .inl (cL, 5, .inr (.inl o_root)))] [h_this, h_this_root] [(h_this, .inr (5, [.int v_thrown, .int v_wires, .int v_isOpen, .int v_isEmpty, .int v_came, .int v_there, .int v_halves, .ref h_this_number, .ref h_this_set, .ref h_this_constant, .int v_rules, .ref h_this_ruleKind, .ref h_this_ruleBit, .ref h_this_ruleOther, .int v_alone, .int v_halfBits, .ref h_this_oldSet, .ref h_this_oldNumber, .ref h_this_allSets, .ref h_this_allNumbers, .int v_allMany, .ref h_this_root])), (h_this_root, .inl (cL, 5, .inr (.inl v_root)))] 11 [(0, .ref h_this)] [] := by
  unfold f_Md_settle_l11 at hf
  refine z_aload_n C d_Md_settle_11 rfl 0 rfl ?_
  refine z_get C iw_Md 0 rfl rfl 21 (by decide) zw_519 rfl d_Md_settle_12 ?_
  refine z_iconst (v := 4) C d_Md_settle_15 (by decide) ?_
  refine z_lald C 1 1 rfl rfl (by decide) d_Md_settle_16 ?_
  refine z_lconst (v := 0) C d_Md_settle_17 (by decide) ?_
  refine z_lcmp C d_Md_settle_18 ?_
  refine z_if_ge (tgt := 39) C d_Md_settle_19 (by decide) (fun c_1 => ?_) (fun c_1 => ?_)
  · have hf := zif_pos c_1 hf
    cases hf
    exact hK
  · have hf := zif_neg c_1 hf
    refine z_aload_n C d_Md_settle_22 rfl 0 rfl ?_
    obtain ⟨q_3, h_2, hf⟩ := zl1_elim hf
    refine z_callV (As := []) (rest := []) (ws' := [(h_this, .inr (5, [.int v_thrown, .int v_wires, .int v_isOpen, .int v_isEmpty, .int v_came, .int v_there, .int v_halves, .ref h_this_number, .ref h_this_set, .ref h_this_constant, .int v_rules, .ref h_this_ruleKind, .ref h_this_ruleBit, .ref h_this_ruleOther, .int v_alone, .int v_halfBits, .ref h_this_oldSet, .ref h_this_oldNumber, .ref h_this_allSets, .ref h_this_allNumbers, .int v_allMany, .ref h_this_root])), (h_this_root, .inl (cL, 5, .inr (.inl q_3)))]) C (c_Md_timesRoot h_2) mi_Md_timesRoot zw_712 (by decide) 0 rfl rfl [0, 1] (by decide) rfl rfl rfl rfl rfl (by decide) ⟨Nat.zero_le _, Nat.zero_le _⟩ d_Md_settle_23 ?_
    refine z_aload_n C d_Md_settle_26 rfl 0 rfl ?_
    refine z_get C iw_Md 0 rfl rfl 21 (by decide) zw_519 rfl d_Md_settle_27 ?_
    refine z_iconst (v := 4) C d_Md_settle_30 (by decide) ?_
    refine z_dup2_11 C d_Md_settle_31 rfl rfl ?_
    refine z_lald C 1 1 rfl rfl (by decide) d_Md_settle_32 ?_
    refine z_lconst (v := 1) C d_Md_settle_33 (by decide) ?_
    refine z_ladd C d_Md_settle_34 ?_
    obtain ⟨u_4, eu_4⟩ : ∃ u : Nat → Int64, u = vp_updL q_3 (4 : Int32).toNatClampNeg ((q_3 (4 : Int32).toNatClampNeg) + (1 : Int64)) := ⟨_, rfl⟩
    have hf := zlet_at eu_4 hf
    refine z_last (ws' := [(h_this, .inr (5, [.int v_thrown, .int v_wires, .int v_isOpen, .int v_isEmpty, .int v_came, .int v_there, .int v_halves, .ref h_this_number, .ref h_this_set, .ref h_this_constant, .int v_rules, .ref h_this_ruleKind, .ref h_this_ruleBit, .ref h_this_ruleOther, .int v_alone, .int v_halfBits, .ref h_this_oldSet, .ref h_this_oldNumber, .ref h_this_allSets, .ref h_this_allNumbers, .int v_allMany, .ref h_this_root])), (h_this_root, .inl (cL, 5, .inr (.inl u_4)))]) C 1 1 rfl rfl (by decide) d_Md_settle_35 (by rw [eu_4]; rfl) ?_
    refine z_goto (tgt := 11) C d_Md_settle_36 (by decide) ?_
    cases hf
    exact hK
theorem k_Md_settle_l11_run {p : Program} {l : Launch} {e : Env} {s : State} {m : MethodId} {args : Array Value} {below : List Frame} {meth : Method} {c : Code} {D : va_G} {cI cL : ClassId} {h_this h_this_number h_this_set h_this_constant h_this_ruleKind h_this_ruleBit h_this_ruleOther h_this_oldSet h_this_oldNumber h_this_allSets h_this_allNumbers h_this_root : Nat} {v_thrown v_wires v_isOpen v_isEmpty v_came v_there v_halves v_rules v_alone v_halfBits v_allMany : Int32} {v_root o_root : Nat → Int64} (C : zC p s m args meth c b_Md_settle 2 R_Md D vwCl [(cI, .int), (cL, .long)] (zA [h_this, h_this_root] s.heap.size)) (hr : meth.sig.returnType = none) {o0 : Nat → Int64} (hf : zloop (fun q => f_Md_settle_l11 v_halves q) zF (v_root) = some o0) (hK : ZV p l e rm_Md_settle s m args below meth c 2 D (none) [(h_this, .inr (5, [.int v_thrown, .int v_wires, .int v_isOpen, .int v_isEmpty, .int v_came, .int v_there, .int v_halves, .ref h_this_number, .ref h_this_set, .ref h_this_constant, .int v_rules, .ref h_this_ruleKind, .ref h_this_ruleBit, .ref h_this_ruleOther, .int v_alone, .int v_halfBits, .ref h_this_oldSet, .ref h_this_oldNumber, .ref h_this_allSets, .ref h_this_allNumbers, .int v_allMany, .ref h_this_root])), (h_this_root, .inl (cL, 5, .inr (.inl o_root)))] [h_this, h_this_root] [(h_this, .inr (5, [.int v_thrown, .int v_wires, .int v_isOpen, .int v_isEmpty, .int v_came, .int v_there, .int v_halves, .ref h_this_number, .ref h_this_set, .ref h_this_constant, .int v_rules, .ref h_this_ruleKind, .ref h_this_ruleBit, .ref h_this_ruleOther, .int v_alone, .int v_halfBits, .ref h_this_oldSet, .ref h_this_oldNumber, .ref h_this_allSets, .ref h_this_allNumbers, .int v_allMany, .ref h_this_root])), (h_this_root, .inl (cL, 5, .inr (.inl o0)))] 39 [(0, .ref h_this)] []) : ZV p l e rm_Md_settle s m args below meth c 2 D (none) [(h_this, .inr (5, [.int v_thrown, .int v_wires, .int v_isOpen, .int v_isEmpty, .int v_came, .int v_there, .int v_halves, .ref h_this_number, .ref h_this_set, .ref h_this_constant, .int v_rules, .ref h_this_ruleKind, .ref h_this_ruleBit, .ref h_this_ruleOther, .int v_alone, .int v_halfBits, .ref h_this_oldSet, .ref h_this_oldNumber, .ref h_this_allSets, .ref h_this_allNumbers, .int v_allMany, .ref h_this_root])), (h_this_root, .inl (cL, 5, .inr (.inl o_root)))] [h_this, h_this_root] [(h_this, .inr (5, [.int v_thrown, .int v_wires, .int v_isOpen, .int v_isEmpty, .int v_came, .int v_there, .int v_halves, .ref h_this_number, .ref h_this_set, .ref h_this_constant, .int v_rules, .ref h_this_ruleKind, .ref h_this_ruleBit, .ref h_this_ruleOther, .int v_alone, .int v_halfBits, .ref h_this_oldSet, .ref h_this_oldNumber, .ref h_this_allSets, .ref h_this_allNumbers, .int v_allMany, .ref h_this_root])), (h_this_root, .inl (cL, 5, .inr (.inl v_root)))] 11 [(0, .ref h_this)] [] :=
  zloop_run (P := fun q => ZV p l e rm_Md_settle s m args below meth c 2 D (none) [(h_this, .inr (5, [.int v_thrown, .int v_wires, .int v_isOpen, .int v_isEmpty, .int v_came, .int v_there, .int v_halves, .ref h_this_number, .ref h_this_set, .ref h_this_constant, .int v_rules, .ref h_this_ruleKind, .ref h_this_ruleBit, .ref h_this_ruleOther, .int v_alone, .int v_halfBits, .ref h_this_oldSet, .ref h_this_oldNumber, .ref h_this_allSets, .ref h_this_allNumbers, .int v_allMany, .ref h_this_root])), (h_this_root, .inl (cL, 5, .inr (.inl o_root)))] [h_this, h_this_root] [(h_this, .inr (5, [.int v_thrown, .int v_wires, .int v_isOpen, .int v_isEmpty, .int v_came, .int v_there, .int v_halves, .ref h_this_number, .ref h_this_set, .ref h_this_constant, .int v_rules, .ref h_this_ruleKind, .ref h_this_ruleBit, .ref h_this_ruleOther, .int v_alone, .int v_halfBits, .ref h_this_oldSet, .ref h_this_oldNumber, .ref h_this_allSets, .ref h_this_allNumbers, .int v_allMany, .ref h_this_root])), (h_this_root, .inl (cL, 5, .inr (.inl q)))] 11 [(0, .ref h_this)] []) (K := (fun q => ZV p l e rm_Md_settle s m args below meth c 2 D (none) [(h_this, .inr (5, [.int v_thrown, .int v_wires, .int v_isOpen, .int v_isEmpty, .int v_came, .int v_there, .int v_halves, .ref h_this_number, .ref h_this_set, .ref h_this_constant, .int v_rules, .ref h_this_ruleKind, .ref h_this_ruleBit, .ref h_this_ruleOther, .int v_alone, .int v_halfBits, .ref h_this_oldSet, .ref h_this_oldNumber, .ref h_this_allSets, .ref h_this_allNumbers, .int v_allMany, .ref h_this_root])), (h_this_root, .inl (cL, 5, .inr (.inl o_root)))] [h_this, h_this_root] [(h_this, .inr (5, [.int v_thrown, .int v_wires, .int v_isOpen, .int v_isEmpty, .int v_came, .int v_there, .int v_halves, .ref h_this_number, .ref h_this_set, .ref h_this_constant, .int v_rules, .ref h_this_ruleKind, .ref h_this_ruleBit, .ref h_this_ruleOther, .int v_alone, .int v_halfBits, .ref h_this_oldSet, .ref h_this_oldNumber, .ref h_this_allSets, .ref h_this_allNumbers, .int v_allMany, .ref h_this_root])), (h_this_root, .inl (cL, 5, .inr (.inl q)))] 39 [(0, .ref h_this)] [])) (fun q z hz hK => k_Md_settle_l11 C hr hz hK) zF _ (o0) hf hK
def f_Md_settle_l100 (v_halves : Int32) (v_root : Nat → Int64) : Option (((Nat → Int64)) ⊕ ((Nat → Int64))) :=
  if (lg_cmp (v_root (4 : Int32).toNatClampNeg) (0 : Int64)) ≤ 0 then (
    some (.inr (v_root)))
  else (
    zb2 (f_Md_byRoot v_root) fun r_3 q_4 =>
    if r_3 = 0 then (
      some (.inr (q_4)))
    else (
      zlet (vp_updL q_4 (4 : Int32).toNatClampNeg ((q_4 (4 : Int32).toNatClampNeg) - (1 : Int64))) fun u_6 =>
      some (.inl (u_6))))
set_option maxRecDepth 100000 in
set_option maxHeartbeats 4000000 in
theorem k_Md_settle_l100 {p : Program} {l : Launch} {e : Env} {s : State} {m : MethodId} {args : Array Value} {below : List Frame} {meth : Method} {c : Code} {D : va_G} {cI cL : ClassId} {h_this h_this_number h_this_set h_this_constant h_this_ruleKind h_this_ruleBit h_this_ruleOther h_this_oldSet h_this_oldNumber h_this_allSets h_this_allNumbers h_this_root : Nat} {v_thrown v_wires v_isOpen v_isEmpty v_came v_there v_halves v_rules v_alone v_halfBits v_allMany : Int32} {v_root o_root : Nat → Int64} (C : zC p s m args meth c b_Md_settle 2 R_Md D vwCl [(cI, .int), (cL, .long)] (zA [h_this, h_this_root] s.heap.size)) (hr : meth.sig.returnType = none) {z : ((Nat → Int64)) ⊕ ((Nat → Int64))} (hf : f_Md_settle_l100 v_halves v_root = some z) (hK : zcase (fun q => ZV p l e rm_Md_settle s m args below meth c 2 D (none) [(h_this, .inr (5, [.int v_thrown, .int v_wires, .int v_isOpen, .int v_isEmpty, .int v_came, .int v_there, .int v_halves, .ref h_this_number, .ref h_this_set, .ref h_this_constant, .int v_rules, .ref h_this_ruleKind, .ref h_this_ruleBit, .ref h_this_ruleOther, .int v_alone, .int v_halfBits, .ref h_this_oldSet, .ref h_this_oldNumber, .ref h_this_allSets, .ref h_this_allNumbers, .int v_allMany, .ref h_this_root])), (h_this_root, .inl (cL, 5, .inr (.inl o_root)))] [h_this, h_this_root] [(h_this, .inr (5, [.int v_thrown, .int v_wires, .int v_isOpen, .int v_isEmpty, .int v_came, .int v_there, .int v_halves, .ref h_this_number, .ref h_this_set, .ref h_this_constant, .int v_rules, .ref h_this_ruleKind, .ref h_this_ruleBit, .ref h_this_ruleOther, .int v_alone, .int v_halfBits, .ref h_this_oldSet, .ref h_this_oldNumber, .ref h_this_allSets, .ref h_this_allNumbers, .int v_allMany, .ref h_this_root])), (h_this_root, .inl (cL, 5, .inr (.inl q)))] 100 [(0, .ref h_this)] []) (fun q => ZV p l e rm_Md_settle s m args below meth c 2 D (none) [(h_this, .inr (5, [.int v_thrown, .int v_wires, .int v_isOpen, .int v_isEmpty, .int v_came, .int v_there, .int v_halves, .ref h_this_number, .ref h_this_set, .ref h_this_constant, .int v_rules, .ref h_this_ruleKind, .ref h_this_ruleBit, .ref h_this_ruleOther, .int v_alone, .int v_halfBits, .ref h_this_oldSet, .ref h_this_oldNumber, .ref h_this_allSets, .ref h_this_allNumbers, .int v_allMany, .ref h_this_root])), (h_this_root, .inl (cL, 5, .inr (.inl o_root)))] [h_this, h_this_root] [(h_this, .inr (5, [.int v_thrown, .int v_wires, .int v_isOpen, .int v_isEmpty, .int v_came, .int v_there, .int v_halves, .ref h_this_number, .ref h_this_set, .ref h_this_constant, .int v_rules, .ref h_this_ruleKind, .ref h_this_ruleBit, .ref h_this_ruleOther, .int v_alone, .int v_halfBits, .ref h_this_oldSet, .ref h_this_oldNumber, .ref h_this_allSets, .ref h_this_allNumbers, .int v_allMany, .ref h_this_root])), (h_this_root, .inl (cL, 5, .inr (.inl q)))] 131 [] []) z) : ZV p l e rm_Md_settle s m args below meth c 2 D (none) [(h_this, .inr (5, [.int v_thrown, .int v_wires, .int v_isOpen, .int v_isEmpty, .int v_came, .int v_there, .int v_halves, .ref h_this_number, .ref h_this_set, .ref h_this_constant, .int v_rules, .ref h_this_ruleKind, .ref h_this_ruleBit, .ref h_this_ruleOther, .int v_alone, .int v_halfBits, .ref h_this_oldSet, .ref h_this_oldNumber, .ref h_this_allSets, .ref h_this_allNumbers, .int v_allMany, .ref h_this_root])), (h_this_root, .inl (cL, 5, .inr (.inl o_root)))] [h_this, h_this_root] [(h_this, .inr (5, [.int v_thrown, .int v_wires, .int v_isOpen, .int v_isEmpty, .int v_came, .int v_there, .int v_halves, .ref h_this_number, .ref h_this_set, .ref h_this_constant, .int v_rules, .ref h_this_ruleKind, .ref h_this_ruleBit, .ref h_this_ruleOther, .int v_alone, .int v_halfBits, .ref h_this_oldSet, .ref h_this_oldNumber, .ref h_this_allSets, .ref h_this_allNumbers, .int v_allMany, .ref h_this_root])), (h_this_root, .inl (cL, 5, .inr (.inl v_root)))] 100 [(0, .ref h_this)] [] := by
  unfold f_Md_settle_l100 at hf
  refine z_aload_n C d_Md_settle_100 rfl 0 rfl ?_
  refine z_get C iw_Md 0 rfl rfl 21 (by decide) zw_519 rfl d_Md_settle_101 ?_
  refine z_iconst (v := 4) C d_Md_settle_104 (by decide) ?_
  refine z_lald C 1 1 rfl rfl (by decide) d_Md_settle_105 ?_
  refine z_lconst (v := 0) C d_Md_settle_106 (by decide) ?_
  refine z_lcmp C d_Md_settle_107 ?_
  refine z_if_le (tgt := 131) C d_Md_settle_108 (by decide) (fun c_1 => ?_) (fun c_1 => ?_)
  · have hf := zif_pos c_1 hf
    refine z_lv [] rfl ?_
    cases hf
    exact hK
  · have hf := zif_neg c_1 hf
    refine z_aload_n C d_Md_settle_111 rfl 0 rfl ?_
    obtain ⟨r_3, q_4, h_2, hf⟩ := zb2_elim hf
    refine z_callV (As := []) (rest := []) (ws' := [(h_this, .inr (5, [.int v_thrown, .int v_wires, .int v_isOpen, .int v_isEmpty, .int v_came, .int v_there, .int v_halves, .ref h_this_number, .ref h_this_set, .ref h_this_constant, .int v_rules, .ref h_this_ruleKind, .ref h_this_ruleBit, .ref h_this_ruleOther, .int v_alone, .int v_halfBits, .ref h_this_oldSet, .ref h_this_oldNumber, .ref h_this_allSets, .ref h_this_allNumbers, .int v_allMany, .ref h_this_root])), (h_this_root, .inl (cL, 5, .inr (.inl q_4)))]) C (c_Md_byRoot h_2) mi_Md_byRoot zw_716 (by decide) 0 rfl rfl [0, 1] (by decide) rfl rfl rfl rfl rfl (by decide) ⟨Nat.zero_le _, Nat.zero_le _⟩ d_Md_settle_112 ?_
    refine z_if_eq (tgt := 131) C d_Md_settle_115 (by decide) (fun c_5 => ?_) (fun c_5 => ?_)
    · have hf := zif_pos c_5 hf
      refine z_lv [] rfl ?_
      cases hf
      exact hK
    · have hf := zif_neg c_5 hf
      refine z_aload_n C d_Md_settle_118 rfl 0 rfl ?_
      refine z_get C iw_Md 0 rfl rfl 21 (by decide) zw_519 rfl d_Md_settle_119 ?_
      refine z_iconst (v := 4) C d_Md_settle_122 (by decide) ?_
      refine z_dup2_11 C d_Md_settle_123 rfl rfl ?_
      refine z_lald C 1 1 rfl rfl (by decide) d_Md_settle_124 ?_
      refine z_lconst (v := 1) C d_Md_settle_125 (by decide) ?_
      refine z_lsub C d_Md_settle_126 ?_
      obtain ⟨u_6, eu_6⟩ : ∃ u : Nat → Int64, u = vp_updL q_4 (4 : Int32).toNatClampNeg ((q_4 (4 : Int32).toNatClampNeg) - (1 : Int64)) := ⟨_, rfl⟩
      have hf := zlet_at eu_6 hf
      refine z_last (ws' := [(h_this, .inr (5, [.int v_thrown, .int v_wires, .int v_isOpen, .int v_isEmpty, .int v_came, .int v_there, .int v_halves, .ref h_this_number, .ref h_this_set, .ref h_this_constant, .int v_rules, .ref h_this_ruleKind, .ref h_this_ruleBit, .ref h_this_ruleOther, .int v_alone, .int v_halfBits, .ref h_this_oldSet, .ref h_this_oldNumber, .ref h_this_allSets, .ref h_this_allNumbers, .int v_allMany, .ref h_this_root])), (h_this_root, .inl (cL, 5, .inr (.inl u_6)))]) C 1 1 rfl rfl (by decide) d_Md_settle_127 (by rw [eu_6]; rfl) ?_
      refine z_goto (tgt := 100) C d_Md_settle_128 (by decide) ?_
      cases hf
      exact hK
theorem k_Md_settle_l100_run {p : Program} {l : Launch} {e : Env} {s : State} {m : MethodId} {args : Array Value} {below : List Frame} {meth : Method} {c : Code} {D : va_G} {cI cL : ClassId} {h_this h_this_number h_this_set h_this_constant h_this_ruleKind h_this_ruleBit h_this_ruleOther h_this_oldSet h_this_oldNumber h_this_allSets h_this_allNumbers h_this_root : Nat} {v_thrown v_wires v_isOpen v_isEmpty v_came v_there v_halves v_rules v_alone v_halfBits v_allMany : Int32} {v_root o_root : Nat → Int64} (C : zC p s m args meth c b_Md_settle 2 R_Md D vwCl [(cI, .int), (cL, .long)] (zA [h_this, h_this_root] s.heap.size)) (hr : meth.sig.returnType = none) {o0 : Nat → Int64} (hf : zloop (fun q => f_Md_settle_l100 v_halves q) zF (v_root) = some o0) (hK : ZV p l e rm_Md_settle s m args below meth c 2 D (none) [(h_this, .inr (5, [.int v_thrown, .int v_wires, .int v_isOpen, .int v_isEmpty, .int v_came, .int v_there, .int v_halves, .ref h_this_number, .ref h_this_set, .ref h_this_constant, .int v_rules, .ref h_this_ruleKind, .ref h_this_ruleBit, .ref h_this_ruleOther, .int v_alone, .int v_halfBits, .ref h_this_oldSet, .ref h_this_oldNumber, .ref h_this_allSets, .ref h_this_allNumbers, .int v_allMany, .ref h_this_root])), (h_this_root, .inl (cL, 5, .inr (.inl o_root)))] [h_this, h_this_root] [(h_this, .inr (5, [.int v_thrown, .int v_wires, .int v_isOpen, .int v_isEmpty, .int v_came, .int v_there, .int v_halves, .ref h_this_number, .ref h_this_set, .ref h_this_constant, .int v_rules, .ref h_this_ruleKind, .ref h_this_ruleBit, .ref h_this_ruleOther, .int v_alone, .int v_halfBits, .ref h_this_oldSet, .ref h_this_oldNumber, .ref h_this_allSets, .ref h_this_allNumbers, .int v_allMany, .ref h_this_root])), (h_this_root, .inl (cL, 5, .inr (.inl o0)))] 131 [] []) : ZV p l e rm_Md_settle s m args below meth c 2 D (none) [(h_this, .inr (5, [.int v_thrown, .int v_wires, .int v_isOpen, .int v_isEmpty, .int v_came, .int v_there, .int v_halves, .ref h_this_number, .ref h_this_set, .ref h_this_constant, .int v_rules, .ref h_this_ruleKind, .ref h_this_ruleBit, .ref h_this_ruleOther, .int v_alone, .int v_halfBits, .ref h_this_oldSet, .ref h_this_oldNumber, .ref h_this_allSets, .ref h_this_allNumbers, .int v_allMany, .ref h_this_root])), (h_this_root, .inl (cL, 5, .inr (.inl o_root)))] [h_this, h_this_root] [(h_this, .inr (5, [.int v_thrown, .int v_wires, .int v_isOpen, .int v_isEmpty, .int v_came, .int v_there, .int v_halves, .ref h_this_number, .ref h_this_set, .ref h_this_constant, .int v_rules, .ref h_this_ruleKind, .ref h_this_ruleBit, .ref h_this_ruleOther, .int v_alone, .int v_halfBits, .ref h_this_oldSet, .ref h_this_oldNumber, .ref h_this_allSets, .ref h_this_allNumbers, .int v_allMany, .ref h_this_root])), (h_this_root, .inl (cL, 5, .inr (.inl v_root)))] 100 [(0, .ref h_this)] [] :=
  zloop_run (P := fun q => ZV p l e rm_Md_settle s m args below meth c 2 D (none) [(h_this, .inr (5, [.int v_thrown, .int v_wires, .int v_isOpen, .int v_isEmpty, .int v_came, .int v_there, .int v_halves, .ref h_this_number, .ref h_this_set, .ref h_this_constant, .int v_rules, .ref h_this_ruleKind, .ref h_this_ruleBit, .ref h_this_ruleOther, .int v_alone, .int v_halfBits, .ref h_this_oldSet, .ref h_this_oldNumber, .ref h_this_allSets, .ref h_this_allNumbers, .int v_allMany, .ref h_this_root])), (h_this_root, .inl (cL, 5, .inr (.inl o_root)))] [h_this, h_this_root] [(h_this, .inr (5, [.int v_thrown, .int v_wires, .int v_isOpen, .int v_isEmpty, .int v_came, .int v_there, .int v_halves, .ref h_this_number, .ref h_this_set, .ref h_this_constant, .int v_rules, .ref h_this_ruleKind, .ref h_this_ruleBit, .ref h_this_ruleOther, .int v_alone, .int v_halfBits, .ref h_this_oldSet, .ref h_this_oldNumber, .ref h_this_allSets, .ref h_this_allNumbers, .int v_allMany, .ref h_this_root])), (h_this_root, .inl (cL, 5, .inr (.inl q)))] 100 [(0, .ref h_this)] []) (K := (fun q => ZV p l e rm_Md_settle s m args below meth c 2 D (none) [(h_this, .inr (5, [.int v_thrown, .int v_wires, .int v_isOpen, .int v_isEmpty, .int v_came, .int v_there, .int v_halves, .ref h_this_number, .ref h_this_set, .ref h_this_constant, .int v_rules, .ref h_this_ruleKind, .ref h_this_ruleBit, .ref h_this_ruleOther, .int v_alone, .int v_halfBits, .ref h_this_oldSet, .ref h_this_oldNumber, .ref h_this_allSets, .ref h_this_allNumbers, .int v_allMany, .ref h_this_root])), (h_this_root, .inl (cL, 5, .inr (.inl o_root)))] [h_this, h_this_root] [(h_this, .inr (5, [.int v_thrown, .int v_wires, .int v_isOpen, .int v_isEmpty, .int v_came, .int v_there, .int v_halves, .ref h_this_number, .ref h_this_set, .ref h_this_constant, .int v_rules, .ref h_this_ruleKind, .ref h_this_ruleBit, .ref h_this_ruleOther, .int v_alone, .int v_halfBits, .ref h_this_oldSet, .ref h_this_oldNumber, .ref h_this_allSets, .ref h_this_allNumbers, .int v_allMany, .ref h_this_root])), (h_this_root, .inl (cL, 5, .inr (.inl q)))] 131 [] [])) (fun q z hz hK => k_Md_settle_l100 C hr hz hK) zF _ (o0) hf hK
def f_Md_settle_j88 (t0 : Int32) (v_halves : Int32) (v_root : Nat → Int64) : Option ((Nat → Int64)) :=
  if t0 = 0 then (
    zb1 (zloop (fun q => f_Md_settle_l100 v_halves q) zF (v_root)) fun q_2 =>
    some (q_2))
  else (
    zlet (vp_updL v_root (4 : Int32).toNatClampNeg (0 : Int64)) fun u_4 =>
    zb1 (zloop (fun q => f_Md_settle_l100 v_halves q) zF (u_4)) fun q_5 =>
    some (q_5))
set_option maxRecDepth 100000 in
set_option maxHeartbeats 4000000 in
theorem k_Md_settle_j88 {p : Program} {l : Launch} {e : Env} {s : State} {m : MethodId} {args : Array Value} {below : List Frame} {meth : Method} {c : Code} {D : va_G} {cI cL : ClassId} {h_this h_this_number h_this_set h_this_constant h_this_ruleKind h_this_ruleBit h_this_ruleOther h_this_oldSet h_this_oldNumber h_this_allSets h_this_allNumbers h_this_root : Nat} {v_thrown v_wires v_isOpen v_isEmpty v_came v_there v_halves v_rules v_alone v_halfBits v_allMany : Int32} {v_root o_root : Nat → Int64} {t0 : Int32} (C : zC p s m args meth c b_Md_settle 2 R_Md D vwCl [(cI, .int), (cL, .long)] (zA [h_this, h_this_root] s.heap.size)) (hr : meth.sig.returnType = none) (hf : f_Md_settle_j88 t0 v_halves v_root = some o_root) : ZV p l e rm_Md_settle s m args below meth c 2 D (none) [(h_this, .inr (5, [.int v_thrown, .int v_wires, .int v_isOpen, .int v_isEmpty, .int v_came, .int v_there, .int v_halves, .ref h_this_number, .ref h_this_set, .ref h_this_constant, .int v_rules, .ref h_this_ruleKind, .ref h_this_ruleBit, .ref h_this_ruleOther, .int v_alone, .int v_halfBits, .ref h_this_oldSet, .ref h_this_oldNumber, .ref h_this_allSets, .ref h_this_allNumbers, .int v_allMany, .ref h_this_root])), (h_this_root, .inl (cL, 5, .inr (.inl o_root)))] [h_this, h_this_root] [(h_this, .inr (5, [.int v_thrown, .int v_wires, .int v_isOpen, .int v_isEmpty, .int v_came, .int v_there, .int v_halves, .ref h_this_number, .ref h_this_set, .ref h_this_constant, .int v_rules, .ref h_this_ruleKind, .ref h_this_ruleBit, .ref h_this_ruleOther, .int v_alone, .int v_halfBits, .ref h_this_oldSet, .ref h_this_oldNumber, .ref h_this_allSets, .ref h_this_allNumbers, .int v_allMany, .ref h_this_root])), (h_this_root, .inl (cL, 5, .inr (.inl v_root)))] 88 [(0, .ref h_this)] [.int t0] := by
  unfold f_Md_settle_j88 at hf
  refine z_istore_n (lv' := [(1, .int t0), (0, .ref h_this)]) C d_Md_settle_88 rfl (by decide) rfl ?_
  refine z_iload_n C d_Md_settle_89 rfl 0 rfl ?_
  refine z_if_eq (tgt := 100) C d_Md_settle_90 (by decide) (fun c_1 => ?_) (fun c_1 => ?_)
  · have hf := zif_pos c_1 hf
    refine z_lv [1] rfl ?_
    obtain ⟨q_2, h_3, hf⟩ := zb1_elim hf
    refine k_Md_settle_l100_run C hr h_3 ?_
    cases hf
    exact z_vret C hr d_Md_settle_131
  · have hf := zif_neg c_1 hf
    refine z_aload_n C d_Md_settle_93 rfl 1 rfl ?_
    refine z_get C iw_Md 0 rfl rfl 21 (by decide) zw_519 rfl d_Md_settle_94 ?_
    refine z_iconst (v := 4) C d_Md_settle_97 (by decide) ?_
    refine z_lconst (v := 0) C d_Md_settle_98 (by decide) ?_
    obtain ⟨u_4, eu_4⟩ : ∃ u : Nat → Int64, u = vp_updL v_root (4 : Int32).toNatClampNeg (0 : Int64) := ⟨_, rfl⟩
    have hf := zlet_at eu_4 hf
    refine z_last (ws' := [(h_this, .inr (5, [.int v_thrown, .int v_wires, .int v_isOpen, .int v_isEmpty, .int v_came, .int v_there, .int v_halves, .ref h_this_number, .ref h_this_set, .ref h_this_constant, .int v_rules, .ref h_this_ruleKind, .ref h_this_ruleBit, .ref h_this_ruleOther, .int v_alone, .int v_halfBits, .ref h_this_oldSet, .ref h_this_oldNumber, .ref h_this_allSets, .ref h_this_allNumbers, .int v_allMany, .ref h_this_root])), (h_this_root, .inl (cL, 5, .inr (.inl u_4)))]) C 1 1 rfl rfl (by decide) d_Md_settle_99 (by rw [eu_4]; rfl) ?_
    refine z_lv [1] rfl ?_
    obtain ⟨q_5, h_6, hf⟩ := zb1_elim hf
    refine k_Md_settle_l100_run C hr h_6 ?_
    cases hf
    exact z_vret C hr d_Md_settle_131
def f_Md_settle_j87 (v_halves : Int32) (v_root : Nat → Int64) : Option ((Nat → Int64)) :=
  f_Md_settle_j88 (0 : Int32) v_halves v_root
set_option maxRecDepth 100000 in
set_option maxHeartbeats 4000000 in
theorem k_Md_settle_j87 {p : Program} {l : Launch} {e : Env} {s : State} {m : MethodId} {args : Array Value} {below : List Frame} {meth : Method} {c : Code} {D : va_G} {cI cL : ClassId} {h_this h_this_number h_this_set h_this_constant h_this_ruleKind h_this_ruleBit h_this_ruleOther h_this_oldSet h_this_oldNumber h_this_allSets h_this_allNumbers h_this_root : Nat} {v_thrown v_wires v_isOpen v_isEmpty v_came v_there v_halves v_rules v_alone v_halfBits v_allMany : Int32} {v_root o_root : Nat → Int64}  (C : zC p s m args meth c b_Md_settle 2 R_Md D vwCl [(cI, .int), (cL, .long)] (zA [h_this, h_this_root] s.heap.size)) (hr : meth.sig.returnType = none) (hf : f_Md_settle_j87 v_halves v_root = some o_root) : ZV p l e rm_Md_settle s m args below meth c 2 D (none) [(h_this, .inr (5, [.int v_thrown, .int v_wires, .int v_isOpen, .int v_isEmpty, .int v_came, .int v_there, .int v_halves, .ref h_this_number, .ref h_this_set, .ref h_this_constant, .int v_rules, .ref h_this_ruleKind, .ref h_this_ruleBit, .ref h_this_ruleOther, .int v_alone, .int v_halfBits, .ref h_this_oldSet, .ref h_this_oldNumber, .ref h_this_allSets, .ref h_this_allNumbers, .int v_allMany, .ref h_this_root])), (h_this_root, .inl (cL, 5, .inr (.inl o_root)))] [h_this, h_this_root] [(h_this, .inr (5, [.int v_thrown, .int v_wires, .int v_isOpen, .int v_isEmpty, .int v_came, .int v_there, .int v_halves, .ref h_this_number, .ref h_this_set, .ref h_this_constant, .int v_rules, .ref h_this_ruleKind, .ref h_this_ruleBit, .ref h_this_ruleOther, .int v_alone, .int v_halfBits, .ref h_this_oldSet, .ref h_this_oldNumber, .ref h_this_allSets, .ref h_this_allNumbers, .int v_allMany, .ref h_this_root])), (h_this_root, .inl (cL, 5, .inr (.inl v_root)))] 87 [(0, .ref h_this)] [] := by
  unfold f_Md_settle_j87 at hf
  refine z_iconst (v := 0) C d_Md_settle_87 (by decide) ?_
  exact k_Md_settle_j88 C hr hf
/-- PathSumsModel.settle()V -/
def f_Md_settle (v_halves : Int32) (v_root : Nat → Int64) : Option ((Nat → Int64)) :=
  zlet (vp_updL v_root (4 : Int32).toNatClampNeg (v_halves.toInt64)) fun u_1 =>
  zb1 (zloop (fun q => f_Md_settle_l11 v_halves q) zF (u_1)) fun q_2 =>
  if (lg_cmp (q_2 (0 : Int32).toNatClampNeg) (0 : Int64)) = 0 then (
    if (lg_cmp (q_2 (1 : Int32).toNatClampNeg) (0 : Int64)) = 0 then (
      if (lg_cmp (q_2 (2 : Int32).toNatClampNeg) (0 : Int64)) = 0 then (
        if (lg_cmp (q_2 (3 : Int32).toNatClampNeg) (0 : Int64)) = 0 then (
          f_Md_settle_j88 (1 : Int32) v_halves q_2)
        else (
          f_Md_settle_j87 v_halves q_2))
      else (
        f_Md_settle_j87 v_halves q_2))
    else (
      f_Md_settle_j87 v_halves q_2))
  else (
    f_Md_settle_j87 v_halves q_2)
set_option maxRecDepth 100000 in
set_option maxHeartbeats 4000000 in
theorem k_Md_settle {p : Program} {l : Launch} {e : Env} {s : State} {m : MethodId} {args : Array Value} {below : List Frame} {meth : Method} {c : Code} {D : va_G} {cI cL : ClassId} {h_this h_this_number h_this_set h_this_constant h_this_ruleKind h_this_ruleBit h_this_ruleOther h_this_oldSet h_this_oldNumber h_this_allSets h_this_allNumbers h_this_root : Nat} {v_thrown v_wires v_isOpen v_isEmpty v_came v_there v_halves v_rules v_alone v_halfBits v_allMany : Int32} {v_root o_root : Nat → Int64} (C : zC p s m args meth c b_Md_settle 2 R_Md D vwCl [(cI, .int), (cL, .long)] (zA [h_this, h_this_root] s.heap.size)) (hr : meth.sig.returnType = none) (hf : f_Md_settle v_halves v_root = some o_root) : ZV p l e rm_Md_settle s m args below meth c 2 D (none) [(h_this, .inr (5, [.int v_thrown, .int v_wires, .int v_isOpen, .int v_isEmpty, .int v_came, .int v_there, .int v_halves, .ref h_this_number, .ref h_this_set, .ref h_this_constant, .int v_rules, .ref h_this_ruleKind, .ref h_this_ruleBit, .ref h_this_ruleOther, .int v_alone, .int v_halfBits, .ref h_this_oldSet, .ref h_this_oldNumber, .ref h_this_allSets, .ref h_this_allNumbers, .int v_allMany, .ref h_this_root])), (h_this_root, .inl (cL, 5, .inr (.inl o_root)))] [h_this, h_this_root] [(h_this, .inr (5, [.int v_thrown, .int v_wires, .int v_isOpen, .int v_isEmpty, .int v_came, .int v_there, .int v_halves, .ref h_this_number, .ref h_this_set, .ref h_this_constant, .int v_rules, .ref h_this_ruleKind, .ref h_this_ruleBit, .ref h_this_ruleOther, .int v_alone, .int v_halfBits, .ref h_this_oldSet, .ref h_this_oldNumber, .ref h_this_allSets, .ref h_this_allNumbers, .int v_allMany, .ref h_this_root])), (h_this_root, .inl (cL, 5, .inr (.inl v_root)))] 0 [(0, .ref h_this)] [] := by
  unfold f_Md_settle at hf
  refine z_aload_n C d_Md_settle_0 rfl 0 rfl ?_
  refine z_get C iw_Md 0 rfl rfl 21 (by decide) zw_519 rfl d_Md_settle_1 ?_
  refine z_iconst (v := 4) C d_Md_settle_4 (by decide) ?_
  refine z_aload_n C d_Md_settle_5 rfl 0 rfl ?_
  refine z_get C iw_Md 0 rfl rfl 6 (by decide) zw_504 rfl d_Md_settle_6 ?_
  refine z_i2l C d_Md_settle_9 ?_
  obtain ⟨u_1, eu_1⟩ : ∃ u : Nat → Int64, u = vp_updL v_root (4 : Int32).toNatClampNeg (v_halves.toInt64) := ⟨_, rfl⟩
  have hf := zlet_at eu_1 hf
  refine z_last (ws' := [(h_this, .inr (5, [.int v_thrown, .int v_wires, .int v_isOpen, .int v_isEmpty, .int v_came, .int v_there, .int v_halves, .ref h_this_number, .ref h_this_set, .ref h_this_constant, .int v_rules, .ref h_this_ruleKind, .ref h_this_ruleBit, .ref h_this_ruleOther, .int v_alone, .int v_halfBits, .ref h_this_oldSet, .ref h_this_oldNumber, .ref h_this_allSets, .ref h_this_allNumbers, .int v_allMany, .ref h_this_root])), (h_this_root, .inl (cL, 5, .inr (.inl u_1)))]) C 1 1 rfl rfl (by decide) d_Md_settle_10 (by rw [eu_1]; rfl) ?_
  obtain ⟨q_2, h_3, hf⟩ := zb1_elim hf
  refine k_Md_settle_l11_run C hr h_3 ?_
  refine z_aload_n C d_Md_settle_39 rfl 0 rfl ?_
  refine z_get C iw_Md 0 rfl rfl 21 (by decide) zw_519 rfl d_Md_settle_40 ?_
  refine z_iconst (v := 0) C d_Md_settle_43 (by decide) ?_
  refine z_lald C 1 1 rfl rfl (by decide) d_Md_settle_44 ?_
  refine z_lconst (v := 0) C d_Md_settle_45 (by decide) ?_
  refine z_lcmp C d_Md_settle_46 ?_
  refine z_if_ne (tgt := 87) C d_Md_settle_47 (by decide) (fun c_4 => ?_) (fun c_4 => ?_)
  · have hf := zif_neg c_4 hf
    exact k_Md_settle_j87 C hr hf
  · have hf := zif_pos c_4 hf
    refine z_aload_n C d_Md_settle_50 rfl 0 rfl ?_
    refine z_get C iw_Md 0 rfl rfl 21 (by decide) zw_519 rfl d_Md_settle_51 ?_
    refine z_iconst (v := 1) C d_Md_settle_54 (by decide) ?_
    refine z_lald C 1 1 rfl rfl (by decide) d_Md_settle_55 ?_
    refine z_lconst (v := 0) C d_Md_settle_56 (by decide) ?_
    refine z_lcmp C d_Md_settle_57 ?_
    refine z_if_ne (tgt := 87) C d_Md_settle_58 (by decide) (fun c_5 => ?_) (fun c_5 => ?_)
    · have hf := zif_neg c_5 hf
      exact k_Md_settle_j87 C hr hf
    · have hf := zif_pos c_5 hf
      refine z_aload_n C d_Md_settle_61 rfl 0 rfl ?_
      refine z_get C iw_Md 0 rfl rfl 21 (by decide) zw_519 rfl d_Md_settle_62 ?_
      refine z_iconst (v := 2) C d_Md_settle_65 (by decide) ?_
      refine z_lald C 1 1 rfl rfl (by decide) d_Md_settle_66 ?_
      refine z_lconst (v := 0) C d_Md_settle_67 (by decide) ?_
      refine z_lcmp C d_Md_settle_68 ?_
      refine z_if_ne (tgt := 87) C d_Md_settle_69 (by decide) (fun c_6 => ?_) (fun c_6 => ?_)
      · have hf := zif_neg c_6 hf
        exact k_Md_settle_j87 C hr hf
      · have hf := zif_pos c_6 hf
        refine z_aload_n C d_Md_settle_72 rfl 0 rfl ?_
        refine z_get C iw_Md 0 rfl rfl 21 (by decide) zw_519 rfl d_Md_settle_73 ?_
        refine z_iconst (v := 3) C d_Md_settle_76 (by decide) ?_
        refine z_lald C 1 1 rfl rfl (by decide) d_Md_settle_77 ?_
        refine z_lconst (v := 0) C d_Md_settle_78 (by decide) ?_
        refine z_lcmp C d_Md_settle_79 ?_
        refine z_if_ne (tgt := 87) C d_Md_settle_80 (by decide) (fun c_7 => ?_) (fun c_7 => ?_)
        · have hf := zif_neg c_7 hf
          exact k_Md_settle_j87 C hr hf
        · have hf := zif_pos c_7 hf
          refine z_iconst (v := 1) C d_Md_settle_83 (by decide) ?_
          refine z_goto (tgt := 88) C d_Md_settle_84 (by decide) ?_
          exact k_Md_settle_j88 C hr hf
theorem c_Md_settle {l : Launch} {D : va_G} {cI cL : ClassId} {h_this h_this_number h_this_set h_this_constant h_this_ruleKind h_this_ruleBit h_this_ruleOther h_this_oldSet h_this_oldNumber h_this_allSets h_this_allNumbers h_this_root : Nat} {v_thrown v_wires v_isOpen v_isEmpty v_came v_there v_halves v_rules v_alone v_halfBits v_allMany : Int32} {v_root o_root : Nat → Int64} (hf : f_Md_settle v_halves v_root = some o_root) : zM l y_Md_settle (Cond.code y_Md_settle b_Md_settle 2 none :: zT) rm_Md_settle D vwCl [(cI, .int), (cL, .long)] [.ref h_this] [(h_this, .inr (5, [.int v_thrown, .int v_wires, .int v_isOpen, .int v_isEmpty, .int v_came, .int v_there, .int v_halves, .ref h_this_number, .ref h_this_set, .ref h_this_constant, .int v_rules, .ref h_this_ruleKind, .ref h_this_ruleBit, .ref h_this_ruleOther, .int v_alone, .int v_halfBits, .ref h_this_oldSet, .ref h_this_oldNumber, .ref h_this_allSets, .ref h_this_allNumbers, .int v_allMany, .ref h_this_root])), (h_this_root, .inl (cL, 5, .inr (.inl v_root)))] [(h_this, .inr (5, [.int v_thrown, .int v_wires, .int v_isOpen, .int v_isEmpty, .int v_came, .int v_there, .int v_halves, .ref h_this_number, .ref h_this_set, .ref h_this_constant, .int v_rules, .ref h_this_ruleKind, .ref h_this_ruleBit, .ref h_this_ruleOther, .int v_alone, .int v_halfBits, .ref h_this_oldSet, .ref h_this_oldNumber, .ref h_this_allSets, .ref h_this_allNumbers, .int v_allMany, .ref h_this_root])), (h_this_root, .inl (cL, 5, .inr (.inl o_root)))] (none) :=
  zM.intro (by decide) rfl (fun _ h => List.mem_cons_of_mem _ h) (Nat.le_of_ble_eq_true rfl) (fun _ _ _ _ _ _ _ C hr _ => k_Md_settle C hr hf)
def rm_Md_raise : Room := { frames := 0, cells := 0, slots := 0, locals := 0 }
/-- PathSumsModel.raise(I)J -/
def f_Md_raise (x1 : Int32) (v_thrown : Int32) : Int64 × Int32 :=
  ((0 : Int64), x1)
set_option maxRecDepth 100000 in
set_option maxHeartbeats 4000000 in
theorem k_Md_raise {p : Program} {l : Launch} {e : Env} {s : State} {m : MethodId} {args : Array Value} {below : List Frame} {meth : Method} {c : Code} {D : va_G} {cI cL : ClassId} {h_this h_this_number h_this_set h_this_constant h_this_ruleKind h_this_ruleBit h_this_ruleOther h_this_oldSet h_this_oldNumber h_this_allSets h_this_allNumbers h_this_root : Nat} {v_thrown v_wires v_isOpen v_isEmpty v_came v_there v_halves v_rules v_alone v_halfBits v_allMany o_thrown x1 : Int32} {rr : Int64} (C : zC p s m args meth c b_Md_raise 2 R_Md D vwCl [(cI, .int), (cL, .long)] (zA [h_this] s.heap.size)) (hr : meth.sig.returnType = some .long) (hf : f_Md_raise x1 v_thrown = (rr, o_thrown)) : ZV p l e rm_Md_raise s m args below meth c 2 D (some (.long rr)) [(h_this, .inr (5, [.int o_thrown, .int v_wires, .int v_isOpen, .int v_isEmpty, .int v_came, .int v_there, .int v_halves, .ref h_this_number, .ref h_this_set, .ref h_this_constant, .int v_rules, .ref h_this_ruleKind, .ref h_this_ruleBit, .ref h_this_ruleOther, .int v_alone, .int v_halfBits, .ref h_this_oldSet, .ref h_this_oldNumber, .ref h_this_allSets, .ref h_this_allNumbers, .int v_allMany, .ref h_this_root]))] [h_this] [(h_this, .inr (5, [.int v_thrown, .int v_wires, .int v_isOpen, .int v_isEmpty, .int v_came, .int v_there, .int v_halves, .ref h_this_number, .ref h_this_set, .ref h_this_constant, .int v_rules, .ref h_this_ruleKind, .ref h_this_ruleBit, .ref h_this_ruleOther, .int v_alone, .int v_halfBits, .ref h_this_oldSet, .ref h_this_oldNumber, .ref h_this_allSets, .ref h_this_allNumbers, .int v_allMany, .ref h_this_root]))] 0 [(0, .ref h_this), (1, .int x1)] [] := by
  unfold f_Md_raise at hf
  refine z_aload_n C d_Md_raise_0 rfl 0 rfl ?_
  refine z_iload_n C d_Md_raise_1 rfl 1 rfl ?_
  refine z_put (ws' := [(h_this, .inr (5, [.int x1, .int v_wires, .int v_isOpen, .int v_isEmpty, .int v_came, .int v_there, .int v_halves, .ref h_this_number, .ref h_this_set, .ref h_this_constant, .int v_rules, .ref h_this_ruleKind, .ref h_this_ruleBit, .ref h_this_ruleOther, .int v_alone, .int v_halfBits, .ref h_this_oldSet, .ref h_this_oldNumber, .ref h_this_allSets, .ref h_this_allNumbers, .int v_allMany, .ref h_this_root]))]) C iw_Md t_Md t_Md_ok n_Md 0 rfl rfl 0 (by decide) zw_498 rfl (ty := .int) rfl rfl rfl (by simp) d_Md_raise_2 rfl ?_
  refine z_lconst (v := 0) C d_Md_raise_5 (by decide) ?_
  cases hf
  exact z_lret C hr d_Md_raise_6
theorem c_Md_raise {l : Launch} {D : va_G} {cI cL : ClassId} {h_this h_this_number h_this_set h_this_constant h_this_ruleKind h_this_ruleBit h_this_ruleOther h_this_oldSet h_this_oldNumber h_this_allSets h_this_allNumbers h_this_root : Nat} {v_thrown v_wires v_isOpen v_isEmpty v_came v_there v_halves v_rules v_alone v_halfBits v_allMany o_thrown x1 : Int32} {rr : Int64} (hf : f_Md_raise x1 v_thrown = (rr, o_thrown)) : zM l y_Md_raise (Cond.code y_Md_raise b_Md_raise 2 (some .long) :: zT) rm_Md_raise D vwCl [(cI, .int), (cL, .long)] [.ref h_this, .int x1] [(h_this, .inr (5, [.int v_thrown, .int v_wires, .int v_isOpen, .int v_isEmpty, .int v_came, .int v_there, .int v_halves, .ref h_this_number, .ref h_this_set, .ref h_this_constant, .int v_rules, .ref h_this_ruleKind, .ref h_this_ruleBit, .ref h_this_ruleOther, .int v_alone, .int v_halfBits, .ref h_this_oldSet, .ref h_this_oldNumber, .ref h_this_allSets, .ref h_this_allNumbers, .int v_allMany, .ref h_this_root]))] [(h_this, .inr (5, [.int o_thrown, .int v_wires, .int v_isOpen, .int v_isEmpty, .int v_came, .int v_there, .int v_halves, .ref h_this_number, .ref h_this_set, .ref h_this_constant, .int v_rules, .ref h_this_ruleKind, .ref h_this_ruleBit, .ref h_this_ruleOther, .int v_alone, .int v_halfBits, .ref h_this_oldSet, .ref h_this_oldNumber, .ref h_this_allSets, .ref h_this_allNumbers, .int v_allMany, .ref h_this_root]))] (some (.long rr)) :=
  zM.intro (by decide) rfl (fun _ h => List.mem_cons_of_mem _ h) (Nat.le_of_ble_eq_true rfl) (fun _ _ _ _ _ _ _ C hr _ => k_Md_raise C hr hf)
def rm_Md_value : Room := { frames := 3, cells := 0, slots := 0, locals := 70 }
def f_Md_value_l99 (x1 : Int32) (x2 : Int32) (x3 : Int32) (x5 : Int32) (v_thrown : Int32) (v_wires : Int32) (v_isOpen : Int32) (v_isEmpty : Int32) (v_there : Int32) (v_halves : Int32) (v_allMany : Int32) (v_number : Nat → Int32) (v_allSets : Nat → Int32) (v_allNumbers : Nat → Int32) (v_set : Nat → Int32) (v_constant : Nat → Int32) (x6 : Int32) (v_root : Nat → Int64) : Option ((Int32 × (Nat → Int64)) ⊕ ((Nat → Int64))) :=
  if (5 : Int32) ≤ x6 then (
    some (.inr (v_root)))
  else (
    if x6 < 0 ∨ 5 ≤ x6.toNatClampNeg then none else
    zlet (vp_updL v_root x6.toNatClampNeg (0 : Int64)) fun u_3 =>
    zlet (x6 + 1) fun y_4 =>
    some (.inl (y_4, u_3)))
set_option maxRecDepth 100000 in
set_option maxHeartbeats 4000000 in
theorem k_Md_value_l99 {p : Program} {l : Launch} {e : Env} {s : State} {m : MethodId} {args : Array Value} {below : List Frame} {meth : Method} {c : Code} {D : va_G} {cI cL : ClassId} {h_this h_this_number h_this_set h_this_constant h_this_ruleKind h_this_ruleBit h_this_ruleOther h_this_oldSet h_this_oldNumber h_this_allSets h_this_allNumbers h_this_root : Nat} {v_thrown v_wires v_isOpen v_isEmpty v_came v_there v_halves v_rules v_alone v_halfBits v_allMany o_thrown o_allMany x1 x2 x3 x5 x6 : Int32} {v_root o_root : Nat → Int64} {v_number v_allSets v_allNumbers v_set v_constant o_allSets o_allNumbers : Nat → Int32} {rr : Int64} (C : zC p s m args meth c b_Md_value 9 R_Md D vwCl [(cI, .int), (cL, .long)] (zA [h_this, h_this_root, h_this_number, h_this_allSets, h_this_allNumbers, h_this_set, h_this_constant] s.heap.size)) (hr : meth.sig.returnType = some .long) {z : (Int32 × (Nat → Int64)) ⊕ ((Nat → Int64))} (hf : f_Md_value_l99 x1 x2 x3 x5 v_thrown v_wires v_isOpen v_isEmpty v_there v_halves v_allMany v_number v_allSets v_allNumbers v_set v_constant x6 v_root = some z) (hK : zcase (fun q => ZV p l e rm_Md_value s m args below meth c 9 D (some (.long rr)) [(h_this, .inr (5, [.int o_thrown, .int v_wires, .int v_isOpen, .int v_isEmpty, .int v_came, .int v_there, .int v_halves, .ref h_this_number, .ref h_this_set, .ref h_this_constant, .int v_rules, .ref h_this_ruleKind, .ref h_this_ruleBit, .ref h_this_ruleOther, .int v_alone, .int v_halfBits, .ref h_this_oldSet, .ref h_this_oldNumber, .ref h_this_allSets, .ref h_this_allNumbers, .int o_allMany, .ref h_this_root])), (h_this_root, .inl (cL, 5, .inr (.inl o_root))), (h_this_number, .inl (cI, 15625, .inl v_number)), (h_this_allSets, .inl (cI, 2325, .inl o_allSets)), (h_this_allNumbers, .inl (cI, 2325, .inl o_allNumbers)), (h_this_set, .inl (cI, 6, .inl v_set)), (h_this_constant, .inl (cI, 6, .inl v_constant))] [h_this, h_this_root, h_this_number, h_this_allSets, h_this_allNumbers, h_this_set, h_this_constant] [(h_this, .inr (5, [.int v_thrown, .int v_wires, .int v_isOpen, .int v_isEmpty, .int v_came, .int v_there, .int v_halves, .ref h_this_number, .ref h_this_set, .ref h_this_constant, .int v_rules, .ref h_this_ruleKind, .ref h_this_ruleBit, .ref h_this_ruleOther, .int v_alone, .int v_halfBits, .ref h_this_oldSet, .ref h_this_oldNumber, .ref h_this_allSets, .ref h_this_allNumbers, .int v_allMany, .ref h_this_root])), (h_this_root, .inl (cL, 5, .inr (.inl q.2))), (h_this_number, .inl (cI, 15625, .inl v_number)), (h_this_allSets, .inl (cI, 2325, .inl v_allSets)), (h_this_allNumbers, .inl (cI, 2325, .inl v_allNumbers)), (h_this_set, .inl (cI, 6, .inl v_set)), (h_this_constant, .inl (cI, 6, .inl v_constant))] 99 [(0, .ref h_this), (1, .int x1), (2, .int x2), (3, .int x3), (5, .int x5), (6, .int q.1)] []) (fun q => ZV p l e rm_Md_value s m args below meth c 9 D (some (.long rr)) [(h_this, .inr (5, [.int o_thrown, .int v_wires, .int v_isOpen, .int v_isEmpty, .int v_came, .int v_there, .int v_halves, .ref h_this_number, .ref h_this_set, .ref h_this_constant, .int v_rules, .ref h_this_ruleKind, .ref h_this_ruleBit, .ref h_this_ruleOther, .int v_alone, .int v_halfBits, .ref h_this_oldSet, .ref h_this_oldNumber, .ref h_this_allSets, .ref h_this_allNumbers, .int o_allMany, .ref h_this_root])), (h_this_root, .inl (cL, 5, .inr (.inl o_root))), (h_this_number, .inl (cI, 15625, .inl v_number)), (h_this_allSets, .inl (cI, 2325, .inl o_allSets)), (h_this_allNumbers, .inl (cI, 2325, .inl o_allNumbers)), (h_this_set, .inl (cI, 6, .inl v_set)), (h_this_constant, .inl (cI, 6, .inl v_constant))] [h_this, h_this_root, h_this_number, h_this_allSets, h_this_allNumbers, h_this_set, h_this_constant] [(h_this, .inr (5, [.int v_thrown, .int v_wires, .int v_isOpen, .int v_isEmpty, .int v_came, .int v_there, .int v_halves, .ref h_this_number, .ref h_this_set, .ref h_this_constant, .int v_rules, .ref h_this_ruleKind, .ref h_this_ruleBit, .ref h_this_ruleOther, .int v_alone, .int v_halfBits, .ref h_this_oldSet, .ref h_this_oldNumber, .ref h_this_allSets, .ref h_this_allNumbers, .int v_allMany, .ref h_this_root])), (h_this_root, .inl (cL, 5, .inr (.inl q))), (h_this_number, .inl (cI, 15625, .inl v_number)), (h_this_allSets, .inl (cI, 2325, .inl v_allSets)), (h_this_allNumbers, .inl (cI, 2325, .inl v_allNumbers)), (h_this_set, .inl (cI, 6, .inl v_set)), (h_this_constant, .inl (cI, 6, .inl v_constant))] 119 [(0, .ref h_this), (1, .int x1), (2, .int x2), (3, .int x3), (5, .int x5)] []) z) : ZV p l e rm_Md_value s m args below meth c 9 D (some (.long rr)) [(h_this, .inr (5, [.int o_thrown, .int v_wires, .int v_isOpen, .int v_isEmpty, .int v_came, .int v_there, .int v_halves, .ref h_this_number, .ref h_this_set, .ref h_this_constant, .int v_rules, .ref h_this_ruleKind, .ref h_this_ruleBit, .ref h_this_ruleOther, .int v_alone, .int v_halfBits, .ref h_this_oldSet, .ref h_this_oldNumber, .ref h_this_allSets, .ref h_this_allNumbers, .int o_allMany, .ref h_this_root])), (h_this_root, .inl (cL, 5, .inr (.inl o_root))), (h_this_number, .inl (cI, 15625, .inl v_number)), (h_this_allSets, .inl (cI, 2325, .inl o_allSets)), (h_this_allNumbers, .inl (cI, 2325, .inl o_allNumbers)), (h_this_set, .inl (cI, 6, .inl v_set)), (h_this_constant, .inl (cI, 6, .inl v_constant))] [h_this, h_this_root, h_this_number, h_this_allSets, h_this_allNumbers, h_this_set, h_this_constant] [(h_this, .inr (5, [.int v_thrown, .int v_wires, .int v_isOpen, .int v_isEmpty, .int v_came, .int v_there, .int v_halves, .ref h_this_number, .ref h_this_set, .ref h_this_constant, .int v_rules, .ref h_this_ruleKind, .ref h_this_ruleBit, .ref h_this_ruleOther, .int v_alone, .int v_halfBits, .ref h_this_oldSet, .ref h_this_oldNumber, .ref h_this_allSets, .ref h_this_allNumbers, .int v_allMany, .ref h_this_root])), (h_this_root, .inl (cL, 5, .inr (.inl v_root))), (h_this_number, .inl (cI, 15625, .inl v_number)), (h_this_allSets, .inl (cI, 2325, .inl v_allSets)), (h_this_allNumbers, .inl (cI, 2325, .inl v_allNumbers)), (h_this_set, .inl (cI, 6, .inl v_set)), (h_this_constant, .inl (cI, 6, .inl v_constant))] 99 [(0, .ref h_this), (1, .int x1), (2, .int x2), (3, .int x3), (5, .int x5), (6, .int x6)] [] := by
  unfold f_Md_value_l99 at hf
  refine z_iload C d_Md_value_99 5 rfl ?_
  refine z_iconst (v := 5) C d_Md_value_101 (by decide) ?_
  refine z_icmp_ge (tgt := 119) C d_Md_value_102 (by decide) (fun c_1 => ?_) (fun c_1 => ?_)
  · have hf := zif_pos c_1 hf
    refine z_lv [0, 1, 2, 3, 4] rfl ?_
    cases hf
    exact hK
  · have hf := zif_neg c_1 hf
    refine z_aload_n C d_Md_value_105 rfl 0 rfl ?_
    refine z_get C iw_Md 0 rfl rfl 21 (by decide) zw_519 rfl d_Md_value_106 ?_
    refine z_iload C d_Md_value_109 5 rfl ?_
    refine z_lconst (v := 0) C d_Md_value_111 (by decide) ?_
    obtain ⟨g_2, hf⟩ := zguard hf
    obtain ⟨u_3, eu_3⟩ : ∃ u : Nat → Int64, u = vp_updL v_root x6.toNatClampNeg (0 : Int64) := ⟨_, rfl⟩
    have hf := zlet_at eu_3 hf
    refine z_last (ws' := [(h_this, .inr (5, [.int v_thrown, .int v_wires, .int v_isOpen, .int v_isEmpty, .int v_came, .int v_there, .int v_halves, .ref h_this_number, .ref h_this_set, .ref h_this_constant, .int v_rules, .ref h_this_ruleKind, .ref h_this_ruleBit, .ref h_this_ruleOther, .int v_alone, .int v_halfBits, .ref h_this_oldSet, .ref h_this_oldNumber, .ref h_this_allSets, .ref h_this_allNumbers, .int v_allMany, .ref h_this_root])), (h_this_root, .inl (cL, 5, .inr (.inl u_3))), (h_this_number, .inl (cI, 15625, .inl v_number)), (h_this_allSets, .inl (cI, 2325, .inl v_allSets)), (h_this_allNumbers, .inl (cI, 2325, .inl v_allNumbers)), (h_this_set, .inl (cI, 6, .inl v_set)), (h_this_constant, .inl (cI, 6, .inl v_constant))]) C 1 1 rfl rfl g_2 d_Md_value_112 (by rw [eu_3]; rfl) ?_
    obtain ⟨y_4, ey_4⟩ : ∃ y : Int32, y = x6 + 1 := ⟨_, rfl⟩
    have hf := zlet_at ey_4 hf
    refine z_iinc (v := y_4) (lv' := [(6, .int y_4), (0, .ref h_this), (1, .int x1), (2, .int x2), (3, .int x3), (5, .int x5)]) C d_Md_value_113 (k := 5) rfl (by rw [ey_4]; rfl) (by decide) rfl ?_
    refine z_goto (tgt := 99) C d_Md_value_116 (by decide) ?_
    refine z_lv [1, 2, 3, 4, 5, 0] rfl ?_
    cases hf
    exact hK
theorem k_Md_value_l99_run {p : Program} {l : Launch} {e : Env} {s : State} {m : MethodId} {args : Array Value} {below : List Frame} {meth : Method} {c : Code} {D : va_G} {cI cL : ClassId} {h_this h_this_number h_this_set h_this_constant h_this_ruleKind h_this_ruleBit h_this_ruleOther h_this_oldSet h_this_oldNumber h_this_allSets h_this_allNumbers h_this_root : Nat} {v_thrown v_wires v_isOpen v_isEmpty v_came v_there v_halves v_rules v_alone v_halfBits v_allMany o_thrown o_allMany x1 x2 x3 x5 x6 : Int32} {v_root o_root : Nat → Int64} {v_number v_allSets v_allNumbers v_set v_constant o_allSets o_allNumbers : Nat → Int32} {rr : Int64} (C : zC p s m args meth c b_Md_value 9 R_Md D vwCl [(cI, .int), (cL, .long)] (zA [h_this, h_this_root, h_this_number, h_this_allSets, h_this_allNumbers, h_this_set, h_this_constant] s.heap.size)) (hr : meth.sig.returnType = some .long) {o0 : Nat → Int64} (hf : zloop (fun q => f_Md_value_l99 x1 x2 x3 x5 v_thrown v_wires v_isOpen v_isEmpty v_there v_halves v_allMany v_number v_allSets v_allNumbers v_set v_constant q.1 q.2) zF (x6, v_root) = some o0) (hK : ZV p l e rm_Md_value s m args below meth c 9 D (some (.long rr)) [(h_this, .inr (5, [.int o_thrown, .int v_wires, .int v_isOpen, .int v_isEmpty, .int v_came, .int v_there, .int v_halves, .ref h_this_number, .ref h_this_set, .ref h_this_constant, .int v_rules, .ref h_this_ruleKind, .ref h_this_ruleBit, .ref h_this_ruleOther, .int v_alone, .int v_halfBits, .ref h_this_oldSet, .ref h_this_oldNumber, .ref h_this_allSets, .ref h_this_allNumbers, .int o_allMany, .ref h_this_root])), (h_this_root, .inl (cL, 5, .inr (.inl o_root))), (h_this_number, .inl (cI, 15625, .inl v_number)), (h_this_allSets, .inl (cI, 2325, .inl o_allSets)), (h_this_allNumbers, .inl (cI, 2325, .inl o_allNumbers)), (h_this_set, .inl (cI, 6, .inl v_set)), (h_this_constant, .inl (cI, 6, .inl v_constant))] [h_this, h_this_root, h_this_number, h_this_allSets, h_this_allNumbers, h_this_set, h_this_constant] [(h_this, .inr (5, [.int v_thrown, .int v_wires, .int v_isOpen, .int v_isEmpty, .int v_came, .int v_there, .int v_halves, .ref h_this_number, .ref h_this_set, .ref h_this_constant, .int v_rules, .ref h_this_ruleKind, .ref h_this_ruleBit, .ref h_this_ruleOther, .int v_alone, .int v_halfBits, .ref h_this_oldSet, .ref h_this_oldNumber, .ref h_this_allSets, .ref h_this_allNumbers, .int v_allMany, .ref h_this_root])), (h_this_root, .inl (cL, 5, .inr (.inl o0))), (h_this_number, .inl (cI, 15625, .inl v_number)), (h_this_allSets, .inl (cI, 2325, .inl v_allSets)), (h_this_allNumbers, .inl (cI, 2325, .inl v_allNumbers)), (h_this_set, .inl (cI, 6, .inl v_set)), (h_this_constant, .inl (cI, 6, .inl v_constant))] 119 [(0, .ref h_this), (1, .int x1), (2, .int x2), (3, .int x3), (5, .int x5)] []) : ZV p l e rm_Md_value s m args below meth c 9 D (some (.long rr)) [(h_this, .inr (5, [.int o_thrown, .int v_wires, .int v_isOpen, .int v_isEmpty, .int v_came, .int v_there, .int v_halves, .ref h_this_number, .ref h_this_set, .ref h_this_constant, .int v_rules, .ref h_this_ruleKind, .ref h_this_ruleBit, .ref h_this_ruleOther, .int v_alone, .int v_halfBits, .ref h_this_oldSet, .ref h_this_oldNumber, .ref h_this_allSets, .ref h_this_allNumbers, .int o_allMany, .ref h_this_root])), (h_this_root, .inl (cL, 5, .inr (.inl o_root))), (h_this_number, .inl (cI, 15625, .inl v_number)), (h_this_allSets, .inl (cI, 2325, .inl o_allSets)), (h_this_allNumbers, .inl (cI, 2325, .inl o_allNumbers)), (h_this_set, .inl (cI, 6, .inl v_set)), (h_this_constant, .inl (cI, 6, .inl v_constant))] [h_this, h_this_root, h_this_number, h_this_allSets, h_this_allNumbers, h_this_set, h_this_constant] [(h_this, .inr (5, [.int v_thrown, .int v_wires, .int v_isOpen, .int v_isEmpty, .int v_came, .int v_there, .int v_halves, .ref h_this_number, .ref h_this_set, .ref h_this_constant, .int v_rules, .ref h_this_ruleKind, .ref h_this_ruleBit, .ref h_this_ruleOther, .int v_alone, .int v_halfBits, .ref h_this_oldSet, .ref h_this_oldNumber, .ref h_this_allSets, .ref h_this_allNumbers, .int v_allMany, .ref h_this_root])), (h_this_root, .inl (cL, 5, .inr (.inl v_root))), (h_this_number, .inl (cI, 15625, .inl v_number)), (h_this_allSets, .inl (cI, 2325, .inl v_allSets)), (h_this_allNumbers, .inl (cI, 2325, .inl v_allNumbers)), (h_this_set, .inl (cI, 6, .inl v_set)), (h_this_constant, .inl (cI, 6, .inl v_constant))] 99 [(0, .ref h_this), (1, .int x1), (2, .int x2), (3, .int x3), (5, .int x5), (6, .int x6)] [] :=
  zloop_run (P := fun q => ZV p l e rm_Md_value s m args below meth c 9 D (some (.long rr)) [(h_this, .inr (5, [.int o_thrown, .int v_wires, .int v_isOpen, .int v_isEmpty, .int v_came, .int v_there, .int v_halves, .ref h_this_number, .ref h_this_set, .ref h_this_constant, .int v_rules, .ref h_this_ruleKind, .ref h_this_ruleBit, .ref h_this_ruleOther, .int v_alone, .int v_halfBits, .ref h_this_oldSet, .ref h_this_oldNumber, .ref h_this_allSets, .ref h_this_allNumbers, .int o_allMany, .ref h_this_root])), (h_this_root, .inl (cL, 5, .inr (.inl o_root))), (h_this_number, .inl (cI, 15625, .inl v_number)), (h_this_allSets, .inl (cI, 2325, .inl o_allSets)), (h_this_allNumbers, .inl (cI, 2325, .inl o_allNumbers)), (h_this_set, .inl (cI, 6, .inl v_set)), (h_this_constant, .inl (cI, 6, .inl v_constant))] [h_this, h_this_root, h_this_number, h_this_allSets, h_this_allNumbers, h_this_set, h_this_constant] [(h_this, .inr (5, [.int v_thrown, .int v_wires, .int v_isOpen, .int v_isEmpty, .int v_came, .int v_there, .int v_halves, .ref h_this_number, .ref h_this_set, .ref h_this_constant, .int v_rules, .ref h_this_ruleKind, .ref h_this_ruleBit, .ref h_this_ruleOther, .int v_alone, .int v_halfBits, .ref h_this_oldSet, .ref h_this_oldNumber, .ref h_this_allSets, .ref h_this_allNumbers, .int v_allMany, .ref h_this_root])), (h_this_root, .inl (cL, 5, .inr (.inl q.2))), (h_this_number, .inl (cI, 15625, .inl v_number)), (h_this_allSets, .inl (cI, 2325, .inl v_allSets)), (h_this_allNumbers, .inl (cI, 2325, .inl v_allNumbers)), (h_this_set, .inl (cI, 6, .inl v_set)), (h_this_constant, .inl (cI, 6, .inl v_constant))] 99 [(0, .ref h_this), (1, .int x1), (2, .int x2), (3, .int x3), (5, .int x5), (6, .int q.1)] []) (K := (fun q => ZV p l e rm_Md_value s m args below meth c 9 D (some (.long rr)) [(h_this, .inr (5, [.int o_thrown, .int v_wires, .int v_isOpen, .int v_isEmpty, .int v_came, .int v_there, .int v_halves, .ref h_this_number, .ref h_this_set, .ref h_this_constant, .int v_rules, .ref h_this_ruleKind, .ref h_this_ruleBit, .ref h_this_ruleOther, .int v_alone, .int v_halfBits, .ref h_this_oldSet, .ref h_this_oldNumber, .ref h_this_allSets, .ref h_this_allNumbers, .int o_allMany, .ref h_this_root])), (h_this_root, .inl (cL, 5, .inr (.inl o_root))), (h_this_number, .inl (cI, 15625, .inl v_number)), (h_this_allSets, .inl (cI, 2325, .inl o_allSets)), (h_this_allNumbers, .inl (cI, 2325, .inl o_allNumbers)), (h_this_set, .inl (cI, 6, .inl v_set)), (h_this_constant, .inl (cI, 6, .inl v_constant))] [h_this, h_this_root, h_this_number, h_this_allSets, h_this_allNumbers, h_this_set, h_this_constant] [(h_this, .inr (5, [.int v_thrown, .int v_wires, .int v_isOpen, .int v_isEmpty, .int v_came, .int v_there, .int v_halves, .ref h_this_number, .ref h_this_set, .ref h_this_constant, .int v_rules, .ref h_this_ruleKind, .ref h_this_ruleBit, .ref h_this_ruleOther, .int v_alone, .int v_halfBits, .ref h_this_oldSet, .ref h_this_oldNumber, .ref h_this_allSets, .ref h_this_allNumbers, .int v_allMany, .ref h_this_root])), (h_this_root, .inl (cL, 5, .inr (.inl q))), (h_this_number, .inl (cI, 15625, .inl v_number)), (h_this_allSets, .inl (cI, 2325, .inl v_allSets)), (h_this_allNumbers, .inl (cI, 2325, .inl v_allNumbers)), (h_this_set, .inl (cI, 6, .inl v_set)), (h_this_constant, .inl (cI, 6, .inl v_constant))] 119 [(0, .ref h_this), (1, .int x1), (2, .int x2), (3, .int x3), (5, .int x5)] [])) (fun q z hz hK => k_Md_value_l99 C hr hz hK) zF _ (o0) hf hK
def f_Md_value_l126 (x1 : Int32) (x2 : Int32) (x3 : Int32) (x5 : Int32) (v_thrown : Int32) (v_wires : Int32) (v_isOpen : Int32) (v_isEmpty : Int32) (v_there : Int32) (v_halves : Int32) (v_allMany : Int32) (v_number : Nat → Int32) (v_allSets : Nat → Int32) (v_allNumbers : Nat → Int32) (v_set : Nat → Int32) (v_constant : Nat → Int32) (x6 : Int32) (v_root : Nat → Int64) : Option ((Int32 × (Nat → Int64)) ⊕ ((Nat → Int64))) :=
  zb1 (f_Md_count x5) fun r_2 =>
  if ((1 : Int32) <<< (r_2 &&& 31)) ≤ x6 then (
    some (.inr (v_root)))
  else (
    if v_isEmpty = 0 then (
      zb1 (f_Md_spread x6 x5) fun r_6 =>
      if v_isOpen = 0 then (
        zlet (r_6 ||| (0 : Int32)) fun y_8 =>
        zb1 (f_Md_isOutput y_8 x2 v_wires v_set v_constant) fun r_10 =>
        if r_10 = 0 then (
          zlet (x6 + 1) fun y_12 =>
          some (.inl (y_12, v_root)))
        else (
          zb1 (f_Md_phaseOf y_8 v_allMany v_allSets v_allNumbers) fun r_14 =>
          if (r_14 &&& (3 : Int32)) < 0 ∨ 5 ≤ (r_14 &&& (3 : Int32)).toNatClampNeg then none else
          if (4 : Int32) ≤ r_14 then (
            if (r_14 &&& (3 : Int32)) < 0 ∨ 5 ≤ (r_14 &&& (3 : Int32)).toNatClampNeg then none else
            zlet (vp_updL v_root (r_14 &&& (3 : Int32)).toNatClampNeg ((v_root (r_14 &&& (3 : Int32)).toNatClampNeg) + (-1 : Int64))) fun u_18 =>
            zlet (x6 + 1) fun y_19 =>
            some (.inl (y_19, u_18)))
          else (
            if (r_14 &&& (3 : Int32)) < 0 ∨ 5 ≤ (r_14 &&& (3 : Int32)).toNatClampNeg then none else
            zlet (vp_updL v_root (r_14 &&& (3 : Int32)).toNatClampNeg ((v_root (r_14 &&& (3 : Int32)).toNatClampNeg) + (1 : Int64))) fun u_21 =>
            zlet (x6 + 1) fun y_22 =>
            some (.inl (y_22, u_21)))))
      else (
        zlet (r_6 ||| x1) fun y_23 =>
        zb1 (f_Md_isOutput y_23 x2 v_wires v_set v_constant) fun r_25 =>
        if r_25 = 0 then (
          zlet (x6 + 1) fun y_27 =>
          some (.inl (y_27, v_root)))
        else (
          zb1 (f_Md_phaseOf y_23 v_allMany v_allSets v_allNumbers) fun r_29 =>
          if (r_29 &&& (3 : Int32)) < 0 ∨ 5 ≤ (r_29 &&& (3 : Int32)).toNatClampNeg then none else
          if (4 : Int32) ≤ r_29 then (
            if (r_29 &&& (3 : Int32)) < 0 ∨ 5 ≤ (r_29 &&& (3 : Int32)).toNatClampNeg then none else
            zlet (vp_updL v_root (r_29 &&& (3 : Int32)).toNatClampNeg ((v_root (r_29 &&& (3 : Int32)).toNatClampNeg) + (-1 : Int64))) fun u_33 =>
            zlet (x6 + 1) fun y_34 =>
            some (.inl (y_34, u_33)))
          else (
            if (r_29 &&& (3 : Int32)) < 0 ∨ 5 ≤ (r_29 &&& (3 : Int32)).toNatClampNeg then none else
            zlet (vp_updL v_root (r_29 &&& (3 : Int32)).toNatClampNeg ((v_root (r_29 &&& (3 : Int32)).toNatClampNeg) + (1 : Int64))) fun u_36 =>
            zlet (x6 + 1) fun y_37 =>
            some (.inl (y_37, u_36))))))
    else (
      some (.inr (v_root))))
set_option maxRecDepth 100000 in
set_option maxHeartbeats 4000000 in
theorem k_Md_value_l126 {p : Program} {l : Launch} {e : Env} {s : State} {m : MethodId} {args : Array Value} {below : List Frame} {meth : Method} {c : Code} {D : va_G} {cI cL : ClassId} {h_this h_this_number h_this_set h_this_constant h_this_ruleKind h_this_ruleBit h_this_ruleOther h_this_oldSet h_this_oldNumber h_this_allSets h_this_allNumbers h_this_root : Nat} {v_thrown v_wires v_isOpen v_isEmpty v_came v_there v_halves v_rules v_alone v_halfBits v_allMany o_thrown o_allMany x1 x2 x3 x5 x6 : Int32} {v_root o_root : Nat → Int64} {v_number v_allSets v_allNumbers v_set v_constant o_allSets o_allNumbers : Nat → Int32} {rr : Int64} (C : zC p s m args meth c b_Md_value 9 R_Md D vwCl [(cI, .int), (cL, .long)] (zA [h_this, h_this_root, h_this_number, h_this_allSets, h_this_allNumbers, h_this_set, h_this_constant] s.heap.size)) (hr : meth.sig.returnType = some .long) {z : (Int32 × (Nat → Int64)) ⊕ ((Nat → Int64))} (hf : f_Md_value_l126 x1 x2 x3 x5 v_thrown v_wires v_isOpen v_isEmpty v_there v_halves v_allMany v_number v_allSets v_allNumbers v_set v_constant x6 v_root = some z) (hK : zcase (fun q => ZV p l e rm_Md_value s m args below meth c 9 D (some (.long rr)) [(h_this, .inr (5, [.int o_thrown, .int v_wires, .int v_isOpen, .int v_isEmpty, .int v_came, .int v_there, .int v_halves, .ref h_this_number, .ref h_this_set, .ref h_this_constant, .int v_rules, .ref h_this_ruleKind, .ref h_this_ruleBit, .ref h_this_ruleOther, .int v_alone, .int v_halfBits, .ref h_this_oldSet, .ref h_this_oldNumber, .ref h_this_allSets, .ref h_this_allNumbers, .int o_allMany, .ref h_this_root])), (h_this_root, .inl (cL, 5, .inr (.inl o_root))), (h_this_number, .inl (cI, 15625, .inl v_number)), (h_this_allSets, .inl (cI, 2325, .inl o_allSets)), (h_this_allNumbers, .inl (cI, 2325, .inl o_allNumbers)), (h_this_set, .inl (cI, 6, .inl v_set)), (h_this_constant, .inl (cI, 6, .inl v_constant))] [h_this, h_this_root, h_this_number, h_this_allSets, h_this_allNumbers, h_this_set, h_this_constant] [(h_this, .inr (5, [.int v_thrown, .int v_wires, .int v_isOpen, .int v_isEmpty, .int v_came, .int v_there, .int v_halves, .ref h_this_number, .ref h_this_set, .ref h_this_constant, .int v_rules, .ref h_this_ruleKind, .ref h_this_ruleBit, .ref h_this_ruleOther, .int v_alone, .int v_halfBits, .ref h_this_oldSet, .ref h_this_oldNumber, .ref h_this_allSets, .ref h_this_allNumbers, .int v_allMany, .ref h_this_root])), (h_this_root, .inl (cL, 5, .inr (.inl q.2))), (h_this_number, .inl (cI, 15625, .inl v_number)), (h_this_allSets, .inl (cI, 2325, .inl v_allSets)), (h_this_allNumbers, .inl (cI, 2325, .inl v_allNumbers)), (h_this_set, .inl (cI, 6, .inl v_set)), (h_this_constant, .inl (cI, 6, .inl v_constant))] 126 [(0, .ref h_this), (1, .int x1), (2, .int x2), (3, .int x3), (5, .int x5), (6, .int q.1)] []) (fun q => ZV p l e rm_Md_value s m args below meth c 9 D (some (.long rr)) [(h_this, .inr (5, [.int o_thrown, .int v_wires, .int v_isOpen, .int v_isEmpty, .int v_came, .int v_there, .int v_halves, .ref h_this_number, .ref h_this_set, .ref h_this_constant, .int v_rules, .ref h_this_ruleKind, .ref h_this_ruleBit, .ref h_this_ruleOther, .int v_alone, .int v_halfBits, .ref h_this_oldSet, .ref h_this_oldNumber, .ref h_this_allSets, .ref h_this_allNumbers, .int o_allMany, .ref h_this_root])), (h_this_root, .inl (cL, 5, .inr (.inl o_root))), (h_this_number, .inl (cI, 15625, .inl v_number)), (h_this_allSets, .inl (cI, 2325, .inl o_allSets)), (h_this_allNumbers, .inl (cI, 2325, .inl o_allNumbers)), (h_this_set, .inl (cI, 6, .inl v_set)), (h_this_constant, .inl (cI, 6, .inl v_constant))] [h_this, h_this_root, h_this_number, h_this_allSets, h_this_allNumbers, h_this_set, h_this_constant] [(h_this, .inr (5, [.int v_thrown, .int v_wires, .int v_isOpen, .int v_isEmpty, .int v_came, .int v_there, .int v_halves, .ref h_this_number, .ref h_this_set, .ref h_this_constant, .int v_rules, .ref h_this_ruleKind, .ref h_this_ruleBit, .ref h_this_ruleOther, .int v_alone, .int v_halfBits, .ref h_this_oldSet, .ref h_this_oldNumber, .ref h_this_allSets, .ref h_this_allNumbers, .int v_allMany, .ref h_this_root])), (h_this_root, .inl (cL, 5, .inr (.inl q))), (h_this_number, .inl (cI, 15625, .inl v_number)), (h_this_allSets, .inl (cI, 2325, .inl v_allSets)), (h_this_allNumbers, .inl (cI, 2325, .inl v_allNumbers)), (h_this_set, .inl (cI, 6, .inl v_set)), (h_this_constant, .inl (cI, 6, .inl v_constant))] 219 [(0, .ref h_this), (3, .int x3)] []) z) : ZV p l e rm_Md_value s m args below meth c 9 D (some (.long rr)) [(h_this, .inr (5, [.int o_thrown, .int v_wires, .int v_isOpen, .int v_isEmpty, .int v_came, .int v_there, .int v_halves, .ref h_this_number, .ref h_this_set, .ref h_this_constant, .int v_rules, .ref h_this_ruleKind, .ref h_this_ruleBit, .ref h_this_ruleOther, .int v_alone, .int v_halfBits, .ref h_this_oldSet, .ref h_this_oldNumber, .ref h_this_allSets, .ref h_this_allNumbers, .int o_allMany, .ref h_this_root])), (h_this_root, .inl (cL, 5, .inr (.inl o_root))), (h_this_number, .inl (cI, 15625, .inl v_number)), (h_this_allSets, .inl (cI, 2325, .inl o_allSets)), (h_this_allNumbers, .inl (cI, 2325, .inl o_allNumbers)), (h_this_set, .inl (cI, 6, .inl v_set)), (h_this_constant, .inl (cI, 6, .inl v_constant))] [h_this, h_this_root, h_this_number, h_this_allSets, h_this_allNumbers, h_this_set, h_this_constant] [(h_this, .inr (5, [.int v_thrown, .int v_wires, .int v_isOpen, .int v_isEmpty, .int v_came, .int v_there, .int v_halves, .ref h_this_number, .ref h_this_set, .ref h_this_constant, .int v_rules, .ref h_this_ruleKind, .ref h_this_ruleBit, .ref h_this_ruleOther, .int v_alone, .int v_halfBits, .ref h_this_oldSet, .ref h_this_oldNumber, .ref h_this_allSets, .ref h_this_allNumbers, .int v_allMany, .ref h_this_root])), (h_this_root, .inl (cL, 5, .inr (.inl v_root))), (h_this_number, .inl (cI, 15625, .inl v_number)), (h_this_allSets, .inl (cI, 2325, .inl v_allSets)), (h_this_allNumbers, .inl (cI, 2325, .inl v_allNumbers)), (h_this_set, .inl (cI, 6, .inl v_set)), (h_this_constant, .inl (cI, 6, .inl v_constant))] 126 [(0, .ref h_this), (1, .int x1), (2, .int x2), (3, .int x3), (5, .int x5), (6, .int x6)] [] := by
  unfold f_Md_value_l126 at hf
  refine z_iload C d_Md_value_126 5 rfl ?_
  refine z_iconst (v := 1) C d_Md_value_128 (by decide) ?_
  refine z_iload C d_Md_value_129 4 rfl ?_
  obtain ⟨r_2, h_1, hf⟩ := zb1_elim hf
  refine z_callS (As := [.int x5]) (rest := [.int (1 : Int32), .int x6]) (ws' := [(h_this, .inr (5, [.int v_thrown, .int v_wires, .int v_isOpen, .int v_isEmpty, .int v_came, .int v_there, .int v_halves, .ref h_this_number, .ref h_this_set, .ref h_this_constant, .int v_rules, .ref h_this_ruleKind, .ref h_this_ruleBit, .ref h_this_ruleOther, .int v_alone, .int v_halfBits, .ref h_this_oldSet, .ref h_this_oldNumber, .ref h_this_allSets, .ref h_this_allNumbers, .int v_allMany, .ref h_this_root])), (h_this_root, .inl (cL, 5, .inr (.inl v_root))), (h_this_number, .inl (cI, 15625, .inl v_number)), (h_this_allSets, .inl (cI, 2325, .inl v_allSets)), (h_this_allNumbers, .inl (cI, 2325, .inl v_allNumbers)), (h_this_set, .inl (cI, 6, .inl v_set)), (h_this_constant, .inl (cI, 6, .inl v_constant))]) C (c_Md_count h_1) mi_Md_count zw_605 (by decide) [] (by decide) rfl rfl rfl rfl rfl (by decide) ⟨Nat.zero_le _, Nat.zero_le _⟩ d_Md_value_131 ?_
  refine z_ishl C d_Md_value_134 ?_
  refine z_icmp_ge (tgt := 219) C d_Md_value_135 (by decide) (fun c_3 => ?_) (fun c_3 => ?_)
  · have hf := zif_pos c_3 hf
    refine z_lv [0, 3] rfl ?_
    cases hf
    exact hK
  · have hf := zif_neg c_3 hf
    refine z_aload_n C d_Md_value_138 rfl 0 rfl ?_
    refine z_get C iw_Md 0 rfl rfl 3 (by decide) zw_501 rfl d_Md_value_139 ?_
    refine z_if_ne (tgt := 219) C d_Md_value_142 (by decide) (fun c_4 => ?_) (fun c_4 => ?_)
    · have hf := zif_neg c_4 hf
      refine z_lv [0, 3] rfl ?_
      cases hf
      exact hK
    · have hf := zif_pos c_4 hf
      refine z_iload C d_Md_value_145 5 rfl ?_
      refine z_iload C d_Md_value_147 4 rfl ?_
      obtain ⟨r_6, h_5, hf⟩ := zb1_elim hf
      refine z_callS (As := [.int x6, .int x5]) (rest := []) (ws' := [(h_this, .inr (5, [.int v_thrown, .int v_wires, .int v_isOpen, .int v_isEmpty, .int v_came, .int v_there, .int v_halves, .ref h_this_number, .ref h_this_set, .ref h_this_constant, .int v_rules, .ref h_this_ruleKind, .ref h_this_ruleBit, .ref h_this_ruleOther, .int v_alone, .int v_halfBits, .ref h_this_oldSet, .ref h_this_oldNumber, .ref h_this_allSets, .ref h_this_allNumbers, .int v_allMany, .ref h_this_root])), (h_this_root, .inl (cL, 5, .inr (.inl v_root))), (h_this_number, .inl (cI, 15625, .inl v_number)), (h_this_allSets, .inl (cI, 2325, .inl v_allSets)), (h_this_allNumbers, .inl (cI, 2325, .inl v_allNumbers)), (h_this_set, .inl (cI, 6, .inl v_set)), (h_this_constant, .inl (cI, 6, .inl v_constant))]) C (c_Md_spread h_5) mi_Md_spread zw_693 (by decide) [] (by decide) rfl rfl rfl rfl rfl (by decide) ⟨Nat.zero_le _, Nat.zero_le _⟩ d_Md_value_149 ?_
      refine z_aload_n C d_Md_value_152 rfl 0 rfl ?_
      refine z_get C iw_Md 0 rfl rfl 2 (by decide) zw_500 rfl d_Md_value_153 ?_
      refine z_if_eq (tgt := 163) C d_Md_value_156 (by decide) (fun c_7 => ?_) (fun c_7 => ?_)
      · have hf := zif_pos c_7 hf
        refine z_iconst (v := 0) C d_Md_value_163 (by decide) ?_
        refine z_ior C d_Md_value_164 ?_
        refine z_topi (fun y_8 ey_8 => ?_)
        have hf := zlet_at ey_8 hf
        refine z_istore (lv' := [(7, .int y_8), (0, .ref h_this), (1, .int x1), (2, .int x2), (3, .int x3), (5, .int x5), (6, .int x6)]) C d_Md_value_165 (by decide) rfl ?_
        refine z_aload_n C d_Md_value_167 rfl 1 rfl ?_
        refine z_iload C d_Md_value_168 0 rfl ?_
        refine z_iload_n C d_Md_value_170 rfl 3 rfl ?_
        obtain ⟨r_10, h_9, hf⟩ := zb1_elim hf
        refine z_callV (As := [.int y_8, .int x2]) (rest := []) (ws' := [(h_this, .inr (5, [.int v_thrown, .int v_wires, .int v_isOpen, .int v_isEmpty, .int v_came, .int v_there, .int v_halves, .ref h_this_number, .ref h_this_set, .ref h_this_constant, .int v_rules, .ref h_this_ruleKind, .ref h_this_ruleBit, .ref h_this_ruleOther, .int v_alone, .int v_halfBits, .ref h_this_oldSet, .ref h_this_oldNumber, .ref h_this_allSets, .ref h_this_allNumbers, .int v_allMany, .ref h_this_root])), (h_this_root, .inl (cL, 5, .inr (.inl v_root))), (h_this_number, .inl (cI, 15625, .inl v_number)), (h_this_allSets, .inl (cI, 2325, .inl v_allSets)), (h_this_allNumbers, .inl (cI, 2325, .inl v_allNumbers)), (h_this_set, .inl (cI, 6, .inl v_set)), (h_this_constant, .inl (cI, 6, .inl v_constant))]) C (c_Md_isOutput h_9) mi_Md_isOutput zw_696 (by decide) 0 rfl rfl [0, 5, 6] (by decide) rfl rfl rfl rfl rfl (by decide) ⟨Nat.zero_le _, Nat.zero_le _⟩ d_Md_value_171 ?_
        refine z_if_ne (tgt := 180) C d_Md_value_174 (by decide) (fun c_11 => ?_) (fun c_11 => ?_)
        · have hf := zif_neg c_11 hf
          refine z_aload_n C d_Md_value_180 rfl 1 rfl ?_
          refine z_iload C d_Md_value_181 0 rfl ?_
          obtain ⟨r_14, h_13, hf⟩ := zb1_elim hf
          refine z_callV (As := [.int y_8]) (rest := []) (ws' := [(h_this, .inr (5, [.int v_thrown, .int v_wires, .int v_isOpen, .int v_isEmpty, .int v_came, .int v_there, .int v_halves, .ref h_this_number, .ref h_this_set, .ref h_this_constant, .int v_rules, .ref h_this_ruleKind, .ref h_this_ruleBit, .ref h_this_ruleOther, .int v_alone, .int v_halfBits, .ref h_this_oldSet, .ref h_this_oldNumber, .ref h_this_allSets, .ref h_this_allNumbers, .int v_allMany, .ref h_this_root])), (h_this_root, .inl (cL, 5, .inr (.inl v_root))), (h_this_number, .inl (cI, 15625, .inl v_number)), (h_this_allSets, .inl (cI, 2325, .inl v_allSets)), (h_this_allNumbers, .inl (cI, 2325, .inl v_allNumbers)), (h_this_set, .inl (cI, 6, .inl v_set)), (h_this_constant, .inl (cI, 6, .inl v_constant))]) C (c_Md_phaseOf h_13) mi_Md_phaseOf zw_703 (by decide) 0 rfl rfl [0, 3, 4] (by decide) rfl rfl rfl rfl rfl (by decide) ⟨Nat.zero_le _, Nat.zero_le _⟩ d_Md_value_183 ?_
          refine z_istore (lv' := [(8, .int r_14), (7, .int y_8), (0, .ref h_this), (1, .int x1), (2, .int x2), (3, .int x3), (5, .int x5), (6, .int x6)]) C d_Md_value_186 (by decide) rfl ?_
          refine z_aload_n C d_Md_value_188 rfl 2 rfl ?_
          refine z_get C iw_Md 0 rfl rfl 21 (by decide) zw_519 rfl d_Md_value_189 ?_
          refine z_iload C d_Md_value_192 0 rfl ?_
          refine z_iconst (v := 3) C d_Md_value_194 (by decide) ?_
          refine z_iand C d_Md_value_195 ?_
          refine z_dup2_11 C d_Md_value_196 rfl rfl ?_
          obtain ⟨g_15, hf⟩ := zguard hf
          refine z_lald C 1 1 rfl rfl g_15 d_Md_value_197 ?_
          refine z_iload C d_Md_value_198 0 rfl ?_
          refine z_iconst (v := 4) C d_Md_value_200 (by decide) ?_
          refine z_icmp_ge (tgt := 208) C d_Md_value_201 (by decide) (fun c_16 => ?_) (fun c_16 => ?_)
          · have hf := zif_pos c_16 hf
            refine z_ldc2 (v := -1) C zw_707 d_Md_value_208 ?_
            refine z_ladd C d_Md_value_211 ?_
            obtain ⟨g_17, hf⟩ := zguard hf
            obtain ⟨u_18, eu_18⟩ : ∃ u : Nat → Int64, u = vp_updL v_root (r_14 &&& (3 : Int32)).toNatClampNeg ((v_root (r_14 &&& (3 : Int32)).toNatClampNeg) + (-1 : Int64)) := ⟨_, rfl⟩
            have hf := zlet_at eu_18 hf
            refine z_last (ws' := [(h_this, .inr (5, [.int v_thrown, .int v_wires, .int v_isOpen, .int v_isEmpty, .int v_came, .int v_there, .int v_halves, .ref h_this_number, .ref h_this_set, .ref h_this_constant, .int v_rules, .ref h_this_ruleKind, .ref h_this_ruleBit, .ref h_this_ruleOther, .int v_alone, .int v_halfBits, .ref h_this_oldSet, .ref h_this_oldNumber, .ref h_this_allSets, .ref h_this_allNumbers, .int v_allMany, .ref h_this_root])), (h_this_root, .inl (cL, 5, .inr (.inl u_18))), (h_this_number, .inl (cI, 15625, .inl v_number)), (h_this_allSets, .inl (cI, 2325, .inl v_allSets)), (h_this_allNumbers, .inl (cI, 2325, .inl v_allNumbers)), (h_this_set, .inl (cI, 6, .inl v_set)), (h_this_constant, .inl (cI, 6, .inl v_constant))]) C 1 1 rfl rfl g_17 d_Md_value_212 (by rw [eu_18]; rfl) ?_
            obtain ⟨y_19, ey_19⟩ : ∃ y : Int32, y = x6 + 1 := ⟨_, rfl⟩
            have hf := zlet_at ey_19 hf
            refine z_iinc (v := y_19) (lv' := [(6, .int y_19), (8, .int r_14), (7, .int y_8), (0, .ref h_this), (1, .int x1), (2, .int x2), (3, .int x3), (5, .int x5)]) C d_Md_value_213 (k := 7) rfl (by rw [ey_19]; rfl) (by decide) rfl ?_
            refine z_goto (tgt := 126) C d_Md_value_216 (by decide) ?_
            refine z_lv [3, 4, 5, 6, 7, 0] rfl ?_
            cases hf
            exact hK
          · have hf := zif_neg c_16 hf
            refine z_lconst (v := 1) C d_Md_value_204 (by decide) ?_
            refine z_goto (tgt := 211) C d_Md_value_205 (by decide) ?_
            refine z_ladd C d_Md_value_211 ?_
            obtain ⟨g_20, hf⟩ := zguard hf
            obtain ⟨u_21, eu_21⟩ : ∃ u : Nat → Int64, u = vp_updL v_root (r_14 &&& (3 : Int32)).toNatClampNeg ((v_root (r_14 &&& (3 : Int32)).toNatClampNeg) + (1 : Int64)) := ⟨_, rfl⟩
            have hf := zlet_at eu_21 hf
            refine z_last (ws' := [(h_this, .inr (5, [.int v_thrown, .int v_wires, .int v_isOpen, .int v_isEmpty, .int v_came, .int v_there, .int v_halves, .ref h_this_number, .ref h_this_set, .ref h_this_constant, .int v_rules, .ref h_this_ruleKind, .ref h_this_ruleBit, .ref h_this_ruleOther, .int v_alone, .int v_halfBits, .ref h_this_oldSet, .ref h_this_oldNumber, .ref h_this_allSets, .ref h_this_allNumbers, .int v_allMany, .ref h_this_root])), (h_this_root, .inl (cL, 5, .inr (.inl u_21))), (h_this_number, .inl (cI, 15625, .inl v_number)), (h_this_allSets, .inl (cI, 2325, .inl v_allSets)), (h_this_allNumbers, .inl (cI, 2325, .inl v_allNumbers)), (h_this_set, .inl (cI, 6, .inl v_set)), (h_this_constant, .inl (cI, 6, .inl v_constant))]) C 1 1 rfl rfl g_20 d_Md_value_212 (by rw [eu_21]; rfl) ?_
            obtain ⟨y_22, ey_22⟩ : ∃ y : Int32, y = x6 + 1 := ⟨_, rfl⟩
            have hf := zlet_at ey_22 hf
            refine z_iinc (v := y_22) (lv' := [(6, .int y_22), (8, .int r_14), (7, .int y_8), (0, .ref h_this), (1, .int x1), (2, .int x2), (3, .int x3), (5, .int x5)]) C d_Md_value_213 (k := 7) rfl (by rw [ey_22]; rfl) (by decide) rfl ?_
            refine z_goto (tgt := 126) C d_Md_value_216 (by decide) ?_
            refine z_lv [3, 4, 5, 6, 7, 0] rfl ?_
            cases hf
            exact hK
        · have hf := zif_pos c_11 hf
          refine z_goto (tgt := 213) C d_Md_value_177 (by decide) ?_
          obtain ⟨y_12, ey_12⟩ : ∃ y : Int32, y = x6 + 1 := ⟨_, rfl⟩
          have hf := zlet_at ey_12 hf
          refine z_iinc (v := y_12) (lv' := [(6, .int y_12), (7, .int y_8), (0, .ref h_this), (1, .int x1), (2, .int x2), (3, .int x3), (5, .int x5)]) C d_Md_value_213 (k := 6) rfl (by rw [ey_12]; rfl) (by decide) rfl ?_
          refine z_goto (tgt := 126) C d_Md_value_216 (by decide) ?_
          refine z_lv [2, 3, 4, 5, 6, 0] rfl ?_
          cases hf
          exact hK
      · have hf := zif_neg c_7 hf
        refine z_iload_n C d_Md_value_159 rfl 1 rfl ?_
        refine z_goto (tgt := 164) C d_Md_value_160 (by decide) ?_
        refine z_ior C d_Md_value_164 ?_
        refine z_topi (fun y_23 ey_23 => ?_)
        have hf := zlet_at ey_23 hf
        refine z_istore (lv' := [(7, .int y_23), (0, .ref h_this), (1, .int x1), (2, .int x2), (3, .int x3), (5, .int x5), (6, .int x6)]) C d_Md_value_165 (by decide) rfl ?_
        refine z_aload_n C d_Md_value_167 rfl 1 rfl ?_
        refine z_iload C d_Md_value_168 0 rfl ?_
        refine z_iload_n C d_Md_value_170 rfl 3 rfl ?_
        obtain ⟨r_25, h_24, hf⟩ := zb1_elim hf
        refine z_callV (As := [.int y_23, .int x2]) (rest := []) (ws' := [(h_this, .inr (5, [.int v_thrown, .int v_wires, .int v_isOpen, .int v_isEmpty, .int v_came, .int v_there, .int v_halves, .ref h_this_number, .ref h_this_set, .ref h_this_constant, .int v_rules, .ref h_this_ruleKind, .ref h_this_ruleBit, .ref h_this_ruleOther, .int v_alone, .int v_halfBits, .ref h_this_oldSet, .ref h_this_oldNumber, .ref h_this_allSets, .ref h_this_allNumbers, .int v_allMany, .ref h_this_root])), (h_this_root, .inl (cL, 5, .inr (.inl v_root))), (h_this_number, .inl (cI, 15625, .inl v_number)), (h_this_allSets, .inl (cI, 2325, .inl v_allSets)), (h_this_allNumbers, .inl (cI, 2325, .inl v_allNumbers)), (h_this_set, .inl (cI, 6, .inl v_set)), (h_this_constant, .inl (cI, 6, .inl v_constant))]) C (c_Md_isOutput h_24) mi_Md_isOutput zw_696 (by decide) 0 rfl rfl [0, 5, 6] (by decide) rfl rfl rfl rfl rfl (by decide) ⟨Nat.zero_le _, Nat.zero_le _⟩ d_Md_value_171 ?_
        refine z_if_ne (tgt := 180) C d_Md_value_174 (by decide) (fun c_26 => ?_) (fun c_26 => ?_)
        · have hf := zif_neg c_26 hf
          refine z_aload_n C d_Md_value_180 rfl 1 rfl ?_
          refine z_iload C d_Md_value_181 0 rfl ?_
          obtain ⟨r_29, h_28, hf⟩ := zb1_elim hf
          refine z_callV (As := [.int y_23]) (rest := []) (ws' := [(h_this, .inr (5, [.int v_thrown, .int v_wires, .int v_isOpen, .int v_isEmpty, .int v_came, .int v_there, .int v_halves, .ref h_this_number, .ref h_this_set, .ref h_this_constant, .int v_rules, .ref h_this_ruleKind, .ref h_this_ruleBit, .ref h_this_ruleOther, .int v_alone, .int v_halfBits, .ref h_this_oldSet, .ref h_this_oldNumber, .ref h_this_allSets, .ref h_this_allNumbers, .int v_allMany, .ref h_this_root])), (h_this_root, .inl (cL, 5, .inr (.inl v_root))), (h_this_number, .inl (cI, 15625, .inl v_number)), (h_this_allSets, .inl (cI, 2325, .inl v_allSets)), (h_this_allNumbers, .inl (cI, 2325, .inl v_allNumbers)), (h_this_set, .inl (cI, 6, .inl v_set)), (h_this_constant, .inl (cI, 6, .inl v_constant))]) C (c_Md_phaseOf h_28) mi_Md_phaseOf zw_703 (by decide) 0 rfl rfl [0, 3, 4] (by decide) rfl rfl rfl rfl rfl (by decide) ⟨Nat.zero_le _, Nat.zero_le _⟩ d_Md_value_183 ?_
          refine z_istore (lv' := [(8, .int r_29), (7, .int y_23), (0, .ref h_this), (1, .int x1), (2, .int x2), (3, .int x3), (5, .int x5), (6, .int x6)]) C d_Md_value_186 (by decide) rfl ?_
          refine z_aload_n C d_Md_value_188 rfl 2 rfl ?_
          refine z_get C iw_Md 0 rfl rfl 21 (by decide) zw_519 rfl d_Md_value_189 ?_
          refine z_iload C d_Md_value_192 0 rfl ?_
          refine z_iconst (v := 3) C d_Md_value_194 (by decide) ?_
          refine z_iand C d_Md_value_195 ?_
          refine z_dup2_11 C d_Md_value_196 rfl rfl ?_
          obtain ⟨g_30, hf⟩ := zguard hf
          refine z_lald C 1 1 rfl rfl g_30 d_Md_value_197 ?_
          refine z_iload C d_Md_value_198 0 rfl ?_
          refine z_iconst (v := 4) C d_Md_value_200 (by decide) ?_
          refine z_icmp_ge (tgt := 208) C d_Md_value_201 (by decide) (fun c_31 => ?_) (fun c_31 => ?_)
          · have hf := zif_pos c_31 hf
            refine z_ldc2 (v := -1) C zw_707 d_Md_value_208 ?_
            refine z_ladd C d_Md_value_211 ?_
            obtain ⟨g_32, hf⟩ := zguard hf
            obtain ⟨u_33, eu_33⟩ : ∃ u : Nat → Int64, u = vp_updL v_root (r_29 &&& (3 : Int32)).toNatClampNeg ((v_root (r_29 &&& (3 : Int32)).toNatClampNeg) + (-1 : Int64)) := ⟨_, rfl⟩
            have hf := zlet_at eu_33 hf
            refine z_last (ws' := [(h_this, .inr (5, [.int v_thrown, .int v_wires, .int v_isOpen, .int v_isEmpty, .int v_came, .int v_there, .int v_halves, .ref h_this_number, .ref h_this_set, .ref h_this_constant, .int v_rules, .ref h_this_ruleKind, .ref h_this_ruleBit, .ref h_this_ruleOther, .int v_alone, .int v_halfBits, .ref h_this_oldSet, .ref h_this_oldNumber, .ref h_this_allSets, .ref h_this_allNumbers, .int v_allMany, .ref h_this_root])), (h_this_root, .inl (cL, 5, .inr (.inl u_33))), (h_this_number, .inl (cI, 15625, .inl v_number)), (h_this_allSets, .inl (cI, 2325, .inl v_allSets)), (h_this_allNumbers, .inl (cI, 2325, .inl v_allNumbers)), (h_this_set, .inl (cI, 6, .inl v_set)), (h_this_constant, .inl (cI, 6, .inl v_constant))]) C 1 1 rfl rfl g_32 d_Md_value_212 (by rw [eu_33]; rfl) ?_
            obtain ⟨y_34, ey_34⟩ : ∃ y : Int32, y = x6 + 1 := ⟨_, rfl⟩
            have hf := zlet_at ey_34 hf
            refine z_iinc (v := y_34) (lv' := [(6, .int y_34), (8, .int r_29), (7, .int y_23), (0, .ref h_this), (1, .int x1), (2, .int x2), (3, .int x3), (5, .int x5)]) C d_Md_value_213 (k := 7) rfl (by rw [ey_34]; rfl) (by decide) rfl ?_
            refine z_goto (tgt := 126) C d_Md_value_216 (by decide) ?_
            refine z_lv [3, 4, 5, 6, 7, 0] rfl ?_
            cases hf
            exact hK
          · have hf := zif_neg c_31 hf
            refine z_lconst (v := 1) C d_Md_value_204 (by decide) ?_
            refine z_goto (tgt := 211) C d_Md_value_205 (by decide) ?_
            refine z_ladd C d_Md_value_211 ?_
            obtain ⟨g_35, hf⟩ := zguard hf
            obtain ⟨u_36, eu_36⟩ : ∃ u : Nat → Int64, u = vp_updL v_root (r_29 &&& (3 : Int32)).toNatClampNeg ((v_root (r_29 &&& (3 : Int32)).toNatClampNeg) + (1 : Int64)) := ⟨_, rfl⟩
            have hf := zlet_at eu_36 hf
            refine z_last (ws' := [(h_this, .inr (5, [.int v_thrown, .int v_wires, .int v_isOpen, .int v_isEmpty, .int v_came, .int v_there, .int v_halves, .ref h_this_number, .ref h_this_set, .ref h_this_constant, .int v_rules, .ref h_this_ruleKind, .ref h_this_ruleBit, .ref h_this_ruleOther, .int v_alone, .int v_halfBits, .ref h_this_oldSet, .ref h_this_oldNumber, .ref h_this_allSets, .ref h_this_allNumbers, .int v_allMany, .ref h_this_root])), (h_this_root, .inl (cL, 5, .inr (.inl u_36))), (h_this_number, .inl (cI, 15625, .inl v_number)), (h_this_allSets, .inl (cI, 2325, .inl v_allSets)), (h_this_allNumbers, .inl (cI, 2325, .inl v_allNumbers)), (h_this_set, .inl (cI, 6, .inl v_set)), (h_this_constant, .inl (cI, 6, .inl v_constant))]) C 1 1 rfl rfl g_35 d_Md_value_212 (by rw [eu_36]; rfl) ?_
            obtain ⟨y_37, ey_37⟩ : ∃ y : Int32, y = x6 + 1 := ⟨_, rfl⟩
            have hf := zlet_at ey_37 hf
            refine z_iinc (v := y_37) (lv' := [(6, .int y_37), (8, .int r_29), (7, .int y_23), (0, .ref h_this), (1, .int x1), (2, .int x2), (3, .int x3), (5, .int x5)]) C d_Md_value_213 (k := 7) rfl (by rw [ey_37]; rfl) (by decide) rfl ?_
            refine z_goto (tgt := 126) C d_Md_value_216 (by decide) ?_
            refine z_lv [3, 4, 5, 6, 7, 0] rfl ?_
            cases hf
            exact hK
        · have hf := zif_pos c_26 hf
          refine z_goto (tgt := 213) C d_Md_value_177 (by decide) ?_
          obtain ⟨y_27, ey_27⟩ : ∃ y : Int32, y = x6 + 1 := ⟨_, rfl⟩
          have hf := zlet_at ey_27 hf
          refine z_iinc (v := y_27) (lv' := [(6, .int y_27), (7, .int y_23), (0, .ref h_this), (1, .int x1), (2, .int x2), (3, .int x3), (5, .int x5)]) C d_Md_value_213 (k := 6) rfl (by rw [ey_27]; rfl) (by decide) rfl ?_
          refine z_goto (tgt := 126) C d_Md_value_216 (by decide) ?_
          refine z_lv [2, 3, 4, 5, 6, 0] rfl ?_
          cases hf
          exact hK
theorem k_Md_value_l126_run {p : Program} {l : Launch} {e : Env} {s : State} {m : MethodId} {args : Array Value} {below : List Frame} {meth : Method} {c : Code} {D : va_G} {cI cL : ClassId} {h_this h_this_number h_this_set h_this_constant h_this_ruleKind h_this_ruleBit h_this_ruleOther h_this_oldSet h_this_oldNumber h_this_allSets h_this_allNumbers h_this_root : Nat} {v_thrown v_wires v_isOpen v_isEmpty v_came v_there v_halves v_rules v_alone v_halfBits v_allMany o_thrown o_allMany x1 x2 x3 x5 x6 : Int32} {v_root o_root : Nat → Int64} {v_number v_allSets v_allNumbers v_set v_constant o_allSets o_allNumbers : Nat → Int32} {rr : Int64} (C : zC p s m args meth c b_Md_value 9 R_Md D vwCl [(cI, .int), (cL, .long)] (zA [h_this, h_this_root, h_this_number, h_this_allSets, h_this_allNumbers, h_this_set, h_this_constant] s.heap.size)) (hr : meth.sig.returnType = some .long) {o0 : Nat → Int64} (hf : zloop (fun q => f_Md_value_l126 x1 x2 x3 x5 v_thrown v_wires v_isOpen v_isEmpty v_there v_halves v_allMany v_number v_allSets v_allNumbers v_set v_constant q.1 q.2) zF (x6, v_root) = some o0) (hK : ZV p l e rm_Md_value s m args below meth c 9 D (some (.long rr)) [(h_this, .inr (5, [.int o_thrown, .int v_wires, .int v_isOpen, .int v_isEmpty, .int v_came, .int v_there, .int v_halves, .ref h_this_number, .ref h_this_set, .ref h_this_constant, .int v_rules, .ref h_this_ruleKind, .ref h_this_ruleBit, .ref h_this_ruleOther, .int v_alone, .int v_halfBits, .ref h_this_oldSet, .ref h_this_oldNumber, .ref h_this_allSets, .ref h_this_allNumbers, .int o_allMany, .ref h_this_root])), (h_this_root, .inl (cL, 5, .inr (.inl o_root))), (h_this_number, .inl (cI, 15625, .inl v_number)), (h_this_allSets, .inl (cI, 2325, .inl o_allSets)), (h_this_allNumbers, .inl (cI, 2325, .inl o_allNumbers)), (h_this_set, .inl (cI, 6, .inl v_set)), (h_this_constant, .inl (cI, 6, .inl v_constant))] [h_this, h_this_root, h_this_number, h_this_allSets, h_this_allNumbers, h_this_set, h_this_constant] [(h_this, .inr (5, [.int v_thrown, .int v_wires, .int v_isOpen, .int v_isEmpty, .int v_came, .int v_there, .int v_halves, .ref h_this_number, .ref h_this_set, .ref h_this_constant, .int v_rules, .ref h_this_ruleKind, .ref h_this_ruleBit, .ref h_this_ruleOther, .int v_alone, .int v_halfBits, .ref h_this_oldSet, .ref h_this_oldNumber, .ref h_this_allSets, .ref h_this_allNumbers, .int v_allMany, .ref h_this_root])), (h_this_root, .inl (cL, 5, .inr (.inl o0))), (h_this_number, .inl (cI, 15625, .inl v_number)), (h_this_allSets, .inl (cI, 2325, .inl v_allSets)), (h_this_allNumbers, .inl (cI, 2325, .inl v_allNumbers)), (h_this_set, .inl (cI, 6, .inl v_set)), (h_this_constant, .inl (cI, 6, .inl v_constant))] 219 [(0, .ref h_this), (3, .int x3)] []) : ZV p l e rm_Md_value s m args below meth c 9 D (some (.long rr)) [(h_this, .inr (5, [.int o_thrown, .int v_wires, .int v_isOpen, .int v_isEmpty, .int v_came, .int v_there, .int v_halves, .ref h_this_number, .ref h_this_set, .ref h_this_constant, .int v_rules, .ref h_this_ruleKind, .ref h_this_ruleBit, .ref h_this_ruleOther, .int v_alone, .int v_halfBits, .ref h_this_oldSet, .ref h_this_oldNumber, .ref h_this_allSets, .ref h_this_allNumbers, .int o_allMany, .ref h_this_root])), (h_this_root, .inl (cL, 5, .inr (.inl o_root))), (h_this_number, .inl (cI, 15625, .inl v_number)), (h_this_allSets, .inl (cI, 2325, .inl o_allSets)), (h_this_allNumbers, .inl (cI, 2325, .inl o_allNumbers)), (h_this_set, .inl (cI, 6, .inl v_set)), (h_this_constant, .inl (cI, 6, .inl v_constant))] [h_this, h_this_root, h_this_number, h_this_allSets, h_this_allNumbers, h_this_set, h_this_constant] [(h_this, .inr (5, [.int v_thrown, .int v_wires, .int v_isOpen, .int v_isEmpty, .int v_came, .int v_there, .int v_halves, .ref h_this_number, .ref h_this_set, .ref h_this_constant, .int v_rules, .ref h_this_ruleKind, .ref h_this_ruleBit, .ref h_this_ruleOther, .int v_alone, .int v_halfBits, .ref h_this_oldSet, .ref h_this_oldNumber, .ref h_this_allSets, .ref h_this_allNumbers, .int v_allMany, .ref h_this_root])), (h_this_root, .inl (cL, 5, .inr (.inl v_root))), (h_this_number, .inl (cI, 15625, .inl v_number)), (h_this_allSets, .inl (cI, 2325, .inl v_allSets)), (h_this_allNumbers, .inl (cI, 2325, .inl v_allNumbers)), (h_this_set, .inl (cI, 6, .inl v_set)), (h_this_constant, .inl (cI, 6, .inl v_constant))] 126 [(0, .ref h_this), (1, .int x1), (2, .int x2), (3, .int x3), (5, .int x5), (6, .int x6)] [] :=
  zloop_run (P := fun q => ZV p l e rm_Md_value s m args below meth c 9 D (some (.long rr)) [(h_this, .inr (5, [.int o_thrown, .int v_wires, .int v_isOpen, .int v_isEmpty, .int v_came, .int v_there, .int v_halves, .ref h_this_number, .ref h_this_set, .ref h_this_constant, .int v_rules, .ref h_this_ruleKind, .ref h_this_ruleBit, .ref h_this_ruleOther, .int v_alone, .int v_halfBits, .ref h_this_oldSet, .ref h_this_oldNumber, .ref h_this_allSets, .ref h_this_allNumbers, .int o_allMany, .ref h_this_root])), (h_this_root, .inl (cL, 5, .inr (.inl o_root))), (h_this_number, .inl (cI, 15625, .inl v_number)), (h_this_allSets, .inl (cI, 2325, .inl o_allSets)), (h_this_allNumbers, .inl (cI, 2325, .inl o_allNumbers)), (h_this_set, .inl (cI, 6, .inl v_set)), (h_this_constant, .inl (cI, 6, .inl v_constant))] [h_this, h_this_root, h_this_number, h_this_allSets, h_this_allNumbers, h_this_set, h_this_constant] [(h_this, .inr (5, [.int v_thrown, .int v_wires, .int v_isOpen, .int v_isEmpty, .int v_came, .int v_there, .int v_halves, .ref h_this_number, .ref h_this_set, .ref h_this_constant, .int v_rules, .ref h_this_ruleKind, .ref h_this_ruleBit, .ref h_this_ruleOther, .int v_alone, .int v_halfBits, .ref h_this_oldSet, .ref h_this_oldNumber, .ref h_this_allSets, .ref h_this_allNumbers, .int v_allMany, .ref h_this_root])), (h_this_root, .inl (cL, 5, .inr (.inl q.2))), (h_this_number, .inl (cI, 15625, .inl v_number)), (h_this_allSets, .inl (cI, 2325, .inl v_allSets)), (h_this_allNumbers, .inl (cI, 2325, .inl v_allNumbers)), (h_this_set, .inl (cI, 6, .inl v_set)), (h_this_constant, .inl (cI, 6, .inl v_constant))] 126 [(0, .ref h_this), (1, .int x1), (2, .int x2), (3, .int x3), (5, .int x5), (6, .int q.1)] []) (K := (fun q => ZV p l e rm_Md_value s m args below meth c 9 D (some (.long rr)) [(h_this, .inr (5, [.int o_thrown, .int v_wires, .int v_isOpen, .int v_isEmpty, .int v_came, .int v_there, .int v_halves, .ref h_this_number, .ref h_this_set, .ref h_this_constant, .int v_rules, .ref h_this_ruleKind, .ref h_this_ruleBit, .ref h_this_ruleOther, .int v_alone, .int v_halfBits, .ref h_this_oldSet, .ref h_this_oldNumber, .ref h_this_allSets, .ref h_this_allNumbers, .int o_allMany, .ref h_this_root])), (h_this_root, .inl (cL, 5, .inr (.inl o_root))), (h_this_number, .inl (cI, 15625, .inl v_number)), (h_this_allSets, .inl (cI, 2325, .inl o_allSets)), (h_this_allNumbers, .inl (cI, 2325, .inl o_allNumbers)), (h_this_set, .inl (cI, 6, .inl v_set)), (h_this_constant, .inl (cI, 6, .inl v_constant))] [h_this, h_this_root, h_this_number, h_this_allSets, h_this_allNumbers, h_this_set, h_this_constant] [(h_this, .inr (5, [.int v_thrown, .int v_wires, .int v_isOpen, .int v_isEmpty, .int v_came, .int v_there, .int v_halves, .ref h_this_number, .ref h_this_set, .ref h_this_constant, .int v_rules, .ref h_this_ruleKind, .ref h_this_ruleBit, .ref h_this_ruleOther, .int v_alone, .int v_halfBits, .ref h_this_oldSet, .ref h_this_oldNumber, .ref h_this_allSets, .ref h_this_allNumbers, .int v_allMany, .ref h_this_root])), (h_this_root, .inl (cL, 5, .inr (.inl q))), (h_this_number, .inl (cI, 15625, .inl v_number)), (h_this_allSets, .inl (cI, 2325, .inl v_allSets)), (h_this_allNumbers, .inl (cI, 2325, .inl v_allNumbers)), (h_this_set, .inl (cI, 6, .inl v_set)), (h_this_constant, .inl (cI, 6, .inl v_constant))] 219 [(0, .ref h_this), (3, .int x3)] [])) (fun q z hz hK => k_Md_value_l126 C hr hz hK) zF _ (o0) hf hK
def f_Md_value_j49 (x1 : Int32) (x2 : Int32) (x3 : Int32) (t0 : Int32) (v_thrown : Int32) (v_wires : Int32) (v_isOpen : Int32) (v_isEmpty : Int32) (v_there : Int32) (v_halves : Int32) (v_allMany : Int32) (v_root : Nat → Int64) (v_number : Nat → Int32) (v_allSets : Nat → Int32) (v_allNumbers : Nat → Int32) (v_set : Nat → Int32) (v_constant : Nat → Int32) : Option (Int64 × Int32 × Int32 × (Nat → Int64) × (Nat → Int32) × (Nat → Int32)) :=
  if t0 = 0 then (
    zl2 (f_Md_raise (1 : Int32) v_thrown) fun r_3 q_4 =>
    some (r_3, q_4, v_allMany, v_root, v_allSets, v_allNumbers))
  else (
    zlet (v_there &&& ((f_Md_inputs v_wires v_isOpen) ^^^ (-1 : Int32))) fun y_6 =>
    zb1 (f_Md_count y_6) fun r_8 =>
    if r_8 ≤ (12 : Int32) then (
      zb1 (zloop (fun q => f_Md_value_l99 x1 x2 x3 y_6 (0 : Int32) v_wires v_isOpen v_isEmpty v_there v_halves v_allMany v_number v_allSets v_allNumbers v_set v_constant q.1 q.2) zF ((0 : Int32), v_root)) fun q_10 =>
      zb3 (f_Md_listAll v_allMany v_number v_allSets v_allNumbers) fun q_13 q_14 q_15 =>
      zb1 (zloop (fun q => f_Md_value_l126 x1 x2 x3 y_6 (0 : Int32) v_wires v_isOpen v_isEmpty v_there v_halves q_13 v_number q_14 q_15 v_set v_constant q.1 q.2) zF ((0 : Int32), q_10)) fun q_16 =>
      zb1 (f_Md_settle v_halves q_16) fun q_19 =>
      if x3 < 0 ∨ 5 ≤ x3.toNatClampNeg then none else
      some (q_19 x3.toNatClampNeg, (0 : Int32), q_13, q_19, q_14, q_15))
    else (
      zl2 (f_Md_raise (2 : Int32) v_thrown) fun r_22 q_23 =>
      some (r_22, q_23, v_allMany, v_root, v_allSets, v_allNumbers)))
set_option maxRecDepth 100000 in
set_option maxHeartbeats 4000000 in
theorem k_Md_value_j49 {p : Program} {l : Launch} {e : Env} {s : State} {m : MethodId} {args : Array Value} {below : List Frame} {meth : Method} {c : Code} {D : va_G} {cI cL : ClassId} {h_this h_this_number h_this_set h_this_constant h_this_ruleKind h_this_ruleBit h_this_ruleOther h_this_oldSet h_this_oldNumber h_this_allSets h_this_allNumbers h_this_root : Nat} {v_thrown v_wires v_isOpen v_isEmpty v_came v_there v_halves v_rules v_alone v_halfBits v_allMany o_thrown o_allMany x1 x2 x3 : Int32} {v_root o_root : Nat → Int64} {v_number v_allSets v_allNumbers v_set v_constant o_allSets o_allNumbers : Nat → Int32} {rr : Int64} {t0 : Int32} (C : zC p s m args meth c b_Md_value 9 R_Md D vwCl [(cI, .int), (cL, .long)] (zA [h_this, h_this_root, h_this_number, h_this_allSets, h_this_allNumbers, h_this_set, h_this_constant] s.heap.size)) (hr : meth.sig.returnType = some .long) (hf : f_Md_value_j49 x1 x2 x3 t0 v_thrown v_wires v_isOpen v_isEmpty v_there v_halves v_allMany v_root v_number v_allSets v_allNumbers v_set v_constant = some (rr, o_thrown, o_allMany, o_root, o_allSets, o_allNumbers)) : ZV p l e rm_Md_value s m args below meth c 9 D (some (.long rr)) [(h_this, .inr (5, [.int o_thrown, .int v_wires, .int v_isOpen, .int v_isEmpty, .int v_came, .int v_there, .int v_halves, .ref h_this_number, .ref h_this_set, .ref h_this_constant, .int v_rules, .ref h_this_ruleKind, .ref h_this_ruleBit, .ref h_this_ruleOther, .int v_alone, .int v_halfBits, .ref h_this_oldSet, .ref h_this_oldNumber, .ref h_this_allSets, .ref h_this_allNumbers, .int o_allMany, .ref h_this_root])), (h_this_root, .inl (cL, 5, .inr (.inl o_root))), (h_this_number, .inl (cI, 15625, .inl v_number)), (h_this_allSets, .inl (cI, 2325, .inl o_allSets)), (h_this_allNumbers, .inl (cI, 2325, .inl o_allNumbers)), (h_this_set, .inl (cI, 6, .inl v_set)), (h_this_constant, .inl (cI, 6, .inl v_constant))] [h_this, h_this_root, h_this_number, h_this_allSets, h_this_allNumbers, h_this_set, h_this_constant] [(h_this, .inr (5, [.int v_thrown, .int v_wires, .int v_isOpen, .int v_isEmpty, .int v_came, .int v_there, .int v_halves, .ref h_this_number, .ref h_this_set, .ref h_this_constant, .int v_rules, .ref h_this_ruleKind, .ref h_this_ruleBit, .ref h_this_ruleOther, .int v_alone, .int v_halfBits, .ref h_this_oldSet, .ref h_this_oldNumber, .ref h_this_allSets, .ref h_this_allNumbers, .int v_allMany, .ref h_this_root])), (h_this_root, .inl (cL, 5, .inr (.inl v_root))), (h_this_number, .inl (cI, 15625, .inl v_number)), (h_this_allSets, .inl (cI, 2325, .inl v_allSets)), (h_this_allNumbers, .inl (cI, 2325, .inl v_allNumbers)), (h_this_set, .inl (cI, 6, .inl v_set)), (h_this_constant, .inl (cI, 6, .inl v_constant))] 49 [(0, .ref h_this), (1, .int x1), (2, .int x2), (3, .int x3)] [.int t0] := by
  unfold f_Md_value_j49 at hf
  refine z_istore (lv' := [(4, .int t0), (0, .ref h_this), (1, .int x1), (2, .int x2), (3, .int x3)]) C d_Md_value_49 (by decide) rfl ?_
  refine z_iload C d_Md_value_51 0 rfl ?_
  refine z_if_ne (tgt := 62) C d_Md_value_53 (by decide) (fun c_1 => ?_) (fun c_1 => ?_)
  · have hf := zif_neg c_1 hf
    refine z_aload_n C d_Md_value_62 rfl 1 rfl ?_
    refine z_get C iw_Md 0 rfl rfl 5 (by decide) zw_503 rfl d_Md_value_63 ?_
    refine z_aload_n C d_Md_value_66 rfl 1 rfl ?_
    refine z_callV (As := []) (rest := [.int v_there]) (ws' := [(h_this, .inr (5, [.int v_thrown, .int v_wires, .int v_isOpen, .int v_isEmpty, .int v_came, .int v_there, .int v_halves, .ref h_this_number, .ref h_this_set, .ref h_this_constant, .int v_rules, .ref h_this_ruleKind, .ref h_this_ruleBit, .ref h_this_ruleOther, .int v_alone, .int v_halfBits, .ref h_this_oldSet, .ref h_this_oldNumber, .ref h_this_allSets, .ref h_this_allNumbers, .int v_allMany, .ref h_this_root])), (h_this_root, .inl (cL, 5, .inr (.inl v_root))), (h_this_number, .inl (cI, 15625, .inl v_number)), (h_this_allSets, .inl (cI, 2325, .inl v_allSets)), (h_this_allNumbers, .inl (cI, 2325, .inl v_allNumbers)), (h_this_set, .inl (cI, 6, .inl v_set)), (h_this_constant, .inl (cI, 6, .inl v_constant))]) C (c_Md_inputs rfl) mi_Md_inputs zw_638 (by decide) 0 rfl rfl [0] (by decide) rfl rfl rfl rfl rfl (by decide) ⟨Nat.zero_le _, Nat.zero_le _⟩ d_Md_value_67 ?_
    refine z_iconst (v := -1) C d_Md_value_70 (by decide) ?_
    refine z_ixor C d_Md_value_71 ?_
    refine z_iand C d_Md_value_72 ?_
    refine z_topi (fun y_6 ey_6 => ?_)
    have hf := zlet_at ey_6 hf
    refine z_istore (lv' := [(5, .int y_6), (4, .int t0), (0, .ref h_this), (1, .int x1), (2, .int x2), (3, .int x3)]) C d_Md_value_73 (by decide) rfl ?_
    refine z_iload C d_Md_value_75 0 rfl ?_
    obtain ⟨r_8, h_7, hf⟩ := zb1_elim hf
    refine z_callS (As := [.int y_6]) (rest := []) (ws' := [(h_this, .inr (5, [.int v_thrown, .int v_wires, .int v_isOpen, .int v_isEmpty, .int v_came, .int v_there, .int v_halves, .ref h_this_number, .ref h_this_set, .ref h_this_constant, .int v_rules, .ref h_this_ruleKind, .ref h_this_ruleBit, .ref h_this_ruleOther, .int v_alone, .int v_halfBits, .ref h_this_oldSet, .ref h_this_oldNumber, .ref h_this_allSets, .ref h_this_allNumbers, .int v_allMany, .ref h_this_root])), (h_this_root, .inl (cL, 5, .inr (.inl v_root))), (h_this_number, .inl (cI, 15625, .inl v_number)), (h_this_allSets, .inl (cI, 2325, .inl v_allSets)), (h_this_allNumbers, .inl (cI, 2325, .inl v_allNumbers)), (h_this_set, .inl (cI, 6, .inl v_set)), (h_this_constant, .inl (cI, 6, .inl v_constant))]) C (c_Md_count h_7) mi_Md_count zw_605 (by decide) [] (by decide) rfl rfl rfl rfl rfl (by decide) ⟨Nat.zero_le _, Nat.zero_le _⟩ d_Md_value_77 ?_
    refine z_bipush (v := 12) C d_Md_value_80 (by decide) ?_
    refine z_icmp_le (tgt := 91) C d_Md_value_82 (by decide) (fun c_9 => ?_) (fun c_9 => ?_)
    · have hf := zif_pos c_9 hf
      refine z_aload_n C d_Md_value_91 rfl 2 rfl ?_
      refine z_iconst (v := 0) C d_Md_value_92 (by decide) ?_
      refine z_put (ws' := [(h_this, .inr (5, [.int (0 : Int32), .int v_wires, .int v_isOpen, .int v_isEmpty, .int v_came, .int v_there, .int v_halves, .ref h_this_number, .ref h_this_set, .ref h_this_constant, .int v_rules, .ref h_this_ruleKind, .ref h_this_ruleBit, .ref h_this_ruleOther, .int v_alone, .int v_halfBits, .ref h_this_oldSet, .ref h_this_oldNumber, .ref h_this_allSets, .ref h_this_allNumbers, .int v_allMany, .ref h_this_root])), (h_this_root, .inl (cL, 5, .inr (.inl v_root))), (h_this_number, .inl (cI, 15625, .inl v_number)), (h_this_allSets, .inl (cI, 2325, .inl v_allSets)), (h_this_allNumbers, .inl (cI, 2325, .inl v_allNumbers)), (h_this_set, .inl (cI, 6, .inl v_set)), (h_this_constant, .inl (cI, 6, .inl v_constant))]) C iw_Md t_Md t_Md_ok n_Md 0 rfl rfl 0 (by decide) zw_498 rfl (ty := .int) rfl rfl rfl (by simp) d_Md_value_93 rfl ?_
      refine z_iconst (v := 0) C d_Md_value_96 (by decide) ?_
      refine z_istore (lv' := [(6, .int (0 : Int32)), (5, .int y_6), (4, .int t0), (0, .ref h_this), (1, .int x1), (2, .int x2), (3, .int x3)]) C d_Md_value_97 (by decide) rfl ?_
      refine z_lv [3, 4, 5, 6, 1, 0] rfl ?_
      obtain ⟨q_10, h_11, hf⟩ := zb1_elim hf
      refine k_Md_value_l99_run C hr h_11 ?_
      refine z_aload_n C d_Md_value_119 rfl 0 rfl ?_
      obtain ⟨q_13, q_14, q_15, h_12, hf⟩ := zb3_elim hf
      refine z_callV (As := []) (rest := []) (ws' := [(h_this, .inr (5, [.int (0 : Int32), .int v_wires, .int v_isOpen, .int v_isEmpty, .int v_came, .int v_there, .int v_halves, .ref h_this_number, .ref h_this_set, .ref h_this_constant, .int v_rules, .ref h_this_ruleKind, .ref h_this_ruleBit, .ref h_this_ruleOther, .int v_alone, .int v_halfBits, .ref h_this_oldSet, .ref h_this_oldNumber, .ref h_this_allSets, .ref h_this_allNumbers, .int q_13, .ref h_this_root])), (h_this_root, .inl (cL, 5, .inr (.inl q_10))), (h_this_number, .inl (cI, 15625, .inl v_number)), (h_this_allSets, .inl (cI, 2325, .inl q_14)), (h_this_allNumbers, .inl (cI, 2325, .inl q_15)), (h_this_set, .inl (cI, 6, .inl v_set)), (h_this_constant, .inl (cI, 6, .inl v_constant))]) C (c_Md_listAll h_12) mi_Md_listAll zw_689 (by decide) 0 rfl rfl [0, 2, 3, 4] (by decide) rfl rfl rfl rfl rfl (by decide) ⟨Nat.zero_le _, Nat.zero_le _⟩ d_Md_value_120 ?_
      refine z_iconst (v := 0) C d_Md_value_123 (by decide) ?_
      refine z_istore (lv' := [(6, .int (0 : Int32)), (0, .ref h_this), (1, .int x1), (2, .int x2), (3, .int x3), (5, .int y_6)]) C d_Md_value_124 (by decide) rfl ?_
      refine z_lv [1, 2, 3, 4, 5, 0] rfl ?_
      obtain ⟨q_16, h_17, hf⟩ := zb1_elim hf
      refine k_Md_value_l126_run C hr h_17 ?_
      refine z_aload_n C d_Md_value_219 rfl 0 rfl ?_
      obtain ⟨q_19, h_18, hf⟩ := zb1_elim hf
      refine z_callV (As := []) (rest := []) (ws' := [(h_this, .inr (5, [.int (0 : Int32), .int v_wires, .int v_isOpen, .int v_isEmpty, .int v_came, .int v_there, .int v_halves, .ref h_this_number, .ref h_this_set, .ref h_this_constant, .int v_rules, .ref h_this_ruleKind, .ref h_this_ruleBit, .ref h_this_ruleOther, .int v_alone, .int v_halfBits, .ref h_this_oldSet, .ref h_this_oldNumber, .ref h_this_allSets, .ref h_this_allNumbers, .int q_13, .ref h_this_root])), (h_this_root, .inl (cL, 5, .inr (.inl q_19))), (h_this_number, .inl (cI, 15625, .inl v_number)), (h_this_allSets, .inl (cI, 2325, .inl q_14)), (h_this_allNumbers, .inl (cI, 2325, .inl q_15)), (h_this_set, .inl (cI, 6, .inl v_set)), (h_this_constant, .inl (cI, 6, .inl v_constant))]) C (c_Md_settle h_18) mi_Md_settle zw_708 (by decide) 0 rfl rfl [0, 1] (by decide) rfl rfl rfl rfl rfl (by decide) ⟨Nat.zero_le _, Nat.zero_le _⟩ d_Md_value_220 ?_
      refine z_aload_n C d_Md_value_223 rfl 0 rfl ?_
      refine z_get C iw_Md 0 rfl rfl 21 (by decide) zw_519 rfl d_Md_value_224 ?_
      refine z_iload_n C d_Md_value_227 rfl 1 rfl ?_
      obtain ⟨g_20, hf⟩ := zguard hf
      refine z_lald C 1 1 rfl rfl g_20 d_Md_value_228 ?_
      cases hf
      exact z_lret C hr d_Md_value_229
    · have hf := zif_neg c_9 hf
      refine z_aload_n C d_Md_value_85 rfl 2 rfl ?_
      refine z_iconst (v := 2) C d_Md_value_86 (by decide) ?_
      obtain ⟨r_22, q_23, h_21, hf⟩ := zl2_elim hf
      refine z_callV (As := [.int (2 : Int32)]) (rest := []) (ws' := [(h_this, .inr (5, [.int q_23, .int v_wires, .int v_isOpen, .int v_isEmpty, .int v_came, .int v_there, .int v_halves, .ref h_this_number, .ref h_this_set, .ref h_this_constant, .int v_rules, .ref h_this_ruleKind, .ref h_this_ruleBit, .ref h_this_ruleOther, .int v_alone, .int v_halfBits, .ref h_this_oldSet, .ref h_this_oldNumber, .ref h_this_allSets, .ref h_this_allNumbers, .int v_allMany, .ref h_this_root])), (h_this_root, .inl (cL, 5, .inr (.inl v_root))), (h_this_number, .inl (cI, 15625, .inl v_number)), (h_this_allSets, .inl (cI, 2325, .inl v_allSets)), (h_this_allNumbers, .inl (cI, 2325, .inl v_allNumbers)), (h_this_set, .inl (cI, 6, .inl v_set)), (h_this_constant, .inl (cI, 6, .inl v_constant))]) C (c_Md_raise h_21) mi_Md_raise zw_685 (by decide) 0 rfl rfl [0] (by decide) rfl rfl rfl rfl rfl (by decide) ⟨Nat.zero_le _, Nat.zero_le _⟩ d_Md_value_87 ?_
      cases hf
      exact z_lret C hr d_Md_value_90
  · have hf := zif_pos c_1 hf
    refine z_aload_n C d_Md_value_56 rfl 1 rfl ?_
    refine z_iconst (v := 1) C d_Md_value_57 (by decide) ?_
    obtain ⟨r_3, q_4, h_2, hf⟩ := zl2_elim hf
    refine z_callV (As := [.int (1 : Int32)]) (rest := []) (ws' := [(h_this, .inr (5, [.int q_4, .int v_wires, .int v_isOpen, .int v_isEmpty, .int v_came, .int v_there, .int v_halves, .ref h_this_number, .ref h_this_set, .ref h_this_constant, .int v_rules, .ref h_this_ruleKind, .ref h_this_ruleBit, .ref h_this_ruleOther, .int v_alone, .int v_halfBits, .ref h_this_oldSet, .ref h_this_oldNumber, .ref h_this_allSets, .ref h_this_allNumbers, .int v_allMany, .ref h_this_root])), (h_this_root, .inl (cL, 5, .inr (.inl v_root))), (h_this_number, .inl (cI, 15625, .inl v_number)), (h_this_allSets, .inl (cI, 2325, .inl v_allSets)), (h_this_allNumbers, .inl (cI, 2325, .inl v_allNumbers)), (h_this_set, .inl (cI, 6, .inl v_set)), (h_this_constant, .inl (cI, 6, .inl v_constant))]) C (c_Md_raise h_2) mi_Md_raise zw_685 (by decide) 0 rfl rfl [0] (by decide) rfl rfl rfl rfl rfl (by decide) ⟨Nat.zero_le _, Nat.zero_le _⟩ d_Md_value_58 ?_
    cases hf
    exact z_lret C hr d_Md_value_61
def f_Md_value_j48 (x1 : Int32) (x2 : Int32) (x3 : Int32) (v_thrown : Int32) (v_wires : Int32) (v_isOpen : Int32) (v_isEmpty : Int32) (v_there : Int32) (v_halves : Int32) (v_allMany : Int32) (v_root : Nat → Int64) (v_number : Nat → Int32) (v_allSets : Nat → Int32) (v_allNumbers : Nat → Int32) (v_set : Nat → Int32) (v_constant : Nat → Int32) : Option (Int64 × Int32 × Int32 × (Nat → Int64) × (Nat → Int32) × (Nat → Int32)) :=
  f_Md_value_j49 x1 x2 x3 (0 : Int32) v_thrown v_wires v_isOpen v_isEmpty v_there v_halves v_allMany v_root v_number v_allSets v_allNumbers v_set v_constant
set_option maxRecDepth 100000 in
set_option maxHeartbeats 4000000 in
theorem k_Md_value_j48 {p : Program} {l : Launch} {e : Env} {s : State} {m : MethodId} {args : Array Value} {below : List Frame} {meth : Method} {c : Code} {D : va_G} {cI cL : ClassId} {h_this h_this_number h_this_set h_this_constant h_this_ruleKind h_this_ruleBit h_this_ruleOther h_this_oldSet h_this_oldNumber h_this_allSets h_this_allNumbers h_this_root : Nat} {v_thrown v_wires v_isOpen v_isEmpty v_came v_there v_halves v_rules v_alone v_halfBits v_allMany o_thrown o_allMany x1 x2 x3 : Int32} {v_root o_root : Nat → Int64} {v_number v_allSets v_allNumbers v_set v_constant o_allSets o_allNumbers : Nat → Int32} {rr : Int64}  (C : zC p s m args meth c b_Md_value 9 R_Md D vwCl [(cI, .int), (cL, .long)] (zA [h_this, h_this_root, h_this_number, h_this_allSets, h_this_allNumbers, h_this_set, h_this_constant] s.heap.size)) (hr : meth.sig.returnType = some .long) (hf : f_Md_value_j48 x1 x2 x3 v_thrown v_wires v_isOpen v_isEmpty v_there v_halves v_allMany v_root v_number v_allSets v_allNumbers v_set v_constant = some (rr, o_thrown, o_allMany, o_root, o_allSets, o_allNumbers)) : ZV p l e rm_Md_value s m args below meth c 9 D (some (.long rr)) [(h_this, .inr (5, [.int o_thrown, .int v_wires, .int v_isOpen, .int v_isEmpty, .int v_came, .int v_there, .int v_halves, .ref h_this_number, .ref h_this_set, .ref h_this_constant, .int v_rules, .ref h_this_ruleKind, .ref h_this_ruleBit, .ref h_this_ruleOther, .int v_alone, .int v_halfBits, .ref h_this_oldSet, .ref h_this_oldNumber, .ref h_this_allSets, .ref h_this_allNumbers, .int o_allMany, .ref h_this_root])), (h_this_root, .inl (cL, 5, .inr (.inl o_root))), (h_this_number, .inl (cI, 15625, .inl v_number)), (h_this_allSets, .inl (cI, 2325, .inl o_allSets)), (h_this_allNumbers, .inl (cI, 2325, .inl o_allNumbers)), (h_this_set, .inl (cI, 6, .inl v_set)), (h_this_constant, .inl (cI, 6, .inl v_constant))] [h_this, h_this_root, h_this_number, h_this_allSets, h_this_allNumbers, h_this_set, h_this_constant] [(h_this, .inr (5, [.int v_thrown, .int v_wires, .int v_isOpen, .int v_isEmpty, .int v_came, .int v_there, .int v_halves, .ref h_this_number, .ref h_this_set, .ref h_this_constant, .int v_rules, .ref h_this_ruleKind, .ref h_this_ruleBit, .ref h_this_ruleOther, .int v_alone, .int v_halfBits, .ref h_this_oldSet, .ref h_this_oldNumber, .ref h_this_allSets, .ref h_this_allNumbers, .int v_allMany, .ref h_this_root])), (h_this_root, .inl (cL, 5, .inr (.inl v_root))), (h_this_number, .inl (cI, 15625, .inl v_number)), (h_this_allSets, .inl (cI, 2325, .inl v_allSets)), (h_this_allNumbers, .inl (cI, 2325, .inl v_allNumbers)), (h_this_set, .inl (cI, 6, .inl v_set)), (h_this_constant, .inl (cI, 6, .inl v_constant))] 48 [(0, .ref h_this), (1, .int x1), (2, .int x2), (3, .int x3)] [] := by
  unfold f_Md_value_j48 at hf
  refine z_iconst (v := 0) C d_Md_value_48 (by decide) ?_
  exact k_Md_value_j49 C hr hf
def f_Md_value_j44 (x1 : Int32) (x2 : Int32) (x3 : Int32) (v_thrown : Int32) (v_wires : Int32) (v_isOpen : Int32) (v_isEmpty : Int32) (v_there : Int32) (v_halves : Int32) (v_allMany : Int32) (v_root : Nat → Int64) (v_number : Nat → Int32) (v_allSets : Nat → Int32) (v_allNumbers : Nat → Int32) (v_set : Nat → Int32) (v_constant : Nat → Int32) : Option (Int64 × Int32 × Int32 × (Nat → Int64) × (Nat → Int32) × (Nat → Int32)) :=
  f_Md_value_j49 x1 x2 x3 (1 : Int32) v_thrown v_wires v_isOpen v_isEmpty v_there v_halves v_allMany v_root v_number v_allSets v_allNumbers v_set v_constant
set_option maxRecDepth 100000 in
set_option maxHeartbeats 4000000 in
theorem k_Md_value_j44 {p : Program} {l : Launch} {e : Env} {s : State} {m : MethodId} {args : Array Value} {below : List Frame} {meth : Method} {c : Code} {D : va_G} {cI cL : ClassId} {h_this h_this_number h_this_set h_this_constant h_this_ruleKind h_this_ruleBit h_this_ruleOther h_this_oldSet h_this_oldNumber h_this_allSets h_this_allNumbers h_this_root : Nat} {v_thrown v_wires v_isOpen v_isEmpty v_came v_there v_halves v_rules v_alone v_halfBits v_allMany o_thrown o_allMany x1 x2 x3 : Int32} {v_root o_root : Nat → Int64} {v_number v_allSets v_allNumbers v_set v_constant o_allSets o_allNumbers : Nat → Int32} {rr : Int64}  (C : zC p s m args meth c b_Md_value 9 R_Md D vwCl [(cI, .int), (cL, .long)] (zA [h_this, h_this_root, h_this_number, h_this_allSets, h_this_allNumbers, h_this_set, h_this_constant] s.heap.size)) (hr : meth.sig.returnType = some .long) (hf : f_Md_value_j44 x1 x2 x3 v_thrown v_wires v_isOpen v_isEmpty v_there v_halves v_allMany v_root v_number v_allSets v_allNumbers v_set v_constant = some (rr, o_thrown, o_allMany, o_root, o_allSets, o_allNumbers)) : ZV p l e rm_Md_value s m args below meth c 9 D (some (.long rr)) [(h_this, .inr (5, [.int o_thrown, .int v_wires, .int v_isOpen, .int v_isEmpty, .int v_came, .int v_there, .int v_halves, .ref h_this_number, .ref h_this_set, .ref h_this_constant, .int v_rules, .ref h_this_ruleKind, .ref h_this_ruleBit, .ref h_this_ruleOther, .int v_alone, .int v_halfBits, .ref h_this_oldSet, .ref h_this_oldNumber, .ref h_this_allSets, .ref h_this_allNumbers, .int o_allMany, .ref h_this_root])), (h_this_root, .inl (cL, 5, .inr (.inl o_root))), (h_this_number, .inl (cI, 15625, .inl v_number)), (h_this_allSets, .inl (cI, 2325, .inl o_allSets)), (h_this_allNumbers, .inl (cI, 2325, .inl o_allNumbers)), (h_this_set, .inl (cI, 6, .inl v_set)), (h_this_constant, .inl (cI, 6, .inl v_constant))] [h_this, h_this_root, h_this_number, h_this_allSets, h_this_allNumbers, h_this_set, h_this_constant] [(h_this, .inr (5, [.int v_thrown, .int v_wires, .int v_isOpen, .int v_isEmpty, .int v_came, .int v_there, .int v_halves, .ref h_this_number, .ref h_this_set, .ref h_this_constant, .int v_rules, .ref h_this_ruleKind, .ref h_this_ruleBit, .ref h_this_ruleOther, .int v_alone, .int v_halfBits, .ref h_this_oldSet, .ref h_this_oldNumber, .ref h_this_allSets, .ref h_this_allNumbers, .int v_allMany, .ref h_this_root])), (h_this_root, .inl (cL, 5, .inr (.inl v_root))), (h_this_number, .inl (cI, 15625, .inl v_number)), (h_this_allSets, .inl (cI, 2325, .inl v_allSets)), (h_this_allNumbers, .inl (cI, 2325, .inl v_allNumbers)), (h_this_set, .inl (cI, 6, .inl v_set)), (h_this_constant, .inl (cI, 6, .inl v_constant))] 44 [(0, .ref h_this), (1, .int x1), (2, .int x2), (3, .int x3)] [] := by
  unfold f_Md_value_j44 at hf
  refine z_iconst (v := 1) C d_Md_value_44 (by decide) ?_
  refine z_goto (tgt := 49) C d_Md_value_45 (by decide) ?_
  exact k_Md_value_j49 C hr hf
/-- PathSumsModel.value(III)J -/
def f_Md_value (x1 : Int32) (x2 : Int32) (x3 : Int32) (v_thrown : Int32) (v_wires : Int32) (v_isOpen : Int32) (v_isEmpty : Int32) (v_there : Int32) (v_halves : Int32) (v_allMany : Int32) (v_root : Nat → Int64) (v_number : Nat → Int32) (v_allSets : Nat → Int32) (v_allNumbers : Nat → Int32) (v_set : Nat → Int32) (v_constant : Nat → Int32) : Option (Int64 × Int32 × Int32 × (Nat → Int64) × (Nat → Int32) × (Nat → Int32)) :=
  if x2 < 0 then (
    f_Md_value_j48 x1 x2 x3 v_thrown v_wires v_isOpen v_isEmpty v_there v_halves v_allMany v_root v_number v_allSets v_allNumbers v_set v_constant)
  else (
    if ((1 : Int32) <<< (v_wires &&& 31)) ≤ x2 then (
      f_Md_value_j48 x1 x2 x3 v_thrown v_wires v_isOpen v_isEmpty v_there v_halves v_allMany v_root v_number v_allSets v_allNumbers v_set v_constant)
    else (
      if x3 < 0 then (
        f_Md_value_j48 x1 x2 x3 v_thrown v_wires v_isOpen v_isEmpty v_there v_halves v_allMany v_root v_number v_allSets v_allNumbers v_set v_constant)
      else (
        if (4 : Int32) < x3 then (
          f_Md_value_j48 x1 x2 x3 v_thrown v_wires v_isOpen v_isEmpty v_there v_halves v_allMany v_root v_number v_allSets v_allNumbers v_set v_constant)
        else (
          if v_isOpen = 0 then (
            f_Md_value_j44 x1 x2 x3 v_thrown v_wires v_isOpen v_isEmpty v_there v_halves v_allMany v_root v_number v_allSets v_allNumbers v_set v_constant)
          else (
            if x1 < 0 then (
              f_Md_value_j48 x1 x2 x3 v_thrown v_wires v_isOpen v_isEmpty v_there v_halves v_allMany v_root v_number v_allSets v_allNumbers v_set v_constant)
            else (
              if ((1 : Int32) <<< (v_wires &&& 31)) ≤ x1 then (
                f_Md_value_j48 x1 x2 x3 v_thrown v_wires v_isOpen v_isEmpty v_there v_halves v_allMany v_root v_number v_allSets v_allNumbers v_set v_constant)
              else (
                f_Md_value_j44 x1 x2 x3 v_thrown v_wires v_isOpen v_isEmpty v_there v_halves v_allMany v_root v_number v_allSets v_allNumbers v_set v_constant)))))))
set_option maxRecDepth 100000 in
set_option maxHeartbeats 4000000 in
theorem k_Md_value {p : Program} {l : Launch} {e : Env} {s : State} {m : MethodId} {args : Array Value} {below : List Frame} {meth : Method} {c : Code} {D : va_G} {cI cL : ClassId} {h_this h_this_number h_this_set h_this_constant h_this_ruleKind h_this_ruleBit h_this_ruleOther h_this_oldSet h_this_oldNumber h_this_allSets h_this_allNumbers h_this_root : Nat} {v_thrown v_wires v_isOpen v_isEmpty v_came v_there v_halves v_rules v_alone v_halfBits v_allMany o_thrown o_allMany x1 x2 x3 : Int32} {v_root o_root : Nat → Int64} {v_number v_allSets v_allNumbers v_set v_constant o_allSets o_allNumbers : Nat → Int32} {rr : Int64} (C : zC p s m args meth c b_Md_value 9 R_Md D vwCl [(cI, .int), (cL, .long)] (zA [h_this, h_this_root, h_this_number, h_this_allSets, h_this_allNumbers, h_this_set, h_this_constant] s.heap.size)) (hr : meth.sig.returnType = some .long) (hf : f_Md_value x1 x2 x3 v_thrown v_wires v_isOpen v_isEmpty v_there v_halves v_allMany v_root v_number v_allSets v_allNumbers v_set v_constant = some (rr, o_thrown, o_allMany, o_root, o_allSets, o_allNumbers)) : ZV p l e rm_Md_value s m args below meth c 9 D (some (.long rr)) [(h_this, .inr (5, [.int o_thrown, .int v_wires, .int v_isOpen, .int v_isEmpty, .int v_came, .int v_there, .int v_halves, .ref h_this_number, .ref h_this_set, .ref h_this_constant, .int v_rules, .ref h_this_ruleKind, .ref h_this_ruleBit, .ref h_this_ruleOther, .int v_alone, .int v_halfBits, .ref h_this_oldSet, .ref h_this_oldNumber, .ref h_this_allSets, .ref h_this_allNumbers, .int o_allMany, .ref h_this_root])), (h_this_root, .inl (cL, 5, .inr (.inl o_root))), (h_this_number, .inl (cI, 15625, .inl v_number)), (h_this_allSets, .inl (cI, 2325, .inl o_allSets)), (h_this_allNumbers, .inl (cI, 2325, .inl o_allNumbers)), (h_this_set, .inl (cI, 6, .inl v_set)), (h_this_constant, .inl (cI, 6, .inl v_constant))] [h_this, h_this_root, h_this_number, h_this_allSets, h_this_allNumbers, h_this_set, h_this_constant] [(h_this, .inr (5, [.int v_thrown, .int v_wires, .int v_isOpen, .int v_isEmpty, .int v_came, .int v_there, .int v_halves, .ref h_this_number, .ref h_this_set, .ref h_this_constant, .int v_rules, .ref h_this_ruleKind, .ref h_this_ruleBit, .ref h_this_ruleOther, .int v_alone, .int v_halfBits, .ref h_this_oldSet, .ref h_this_oldNumber, .ref h_this_allSets, .ref h_this_allNumbers, .int v_allMany, .ref h_this_root])), (h_this_root, .inl (cL, 5, .inr (.inl v_root))), (h_this_number, .inl (cI, 15625, .inl v_number)), (h_this_allSets, .inl (cI, 2325, .inl v_allSets)), (h_this_allNumbers, .inl (cI, 2325, .inl v_allNumbers)), (h_this_set, .inl (cI, 6, .inl v_set)), (h_this_constant, .inl (cI, 6, .inl v_constant))] 0 [(0, .ref h_this), (1, .int x1), (2, .int x2), (3, .int x3)] [] := by
  unfold f_Md_value at hf
  refine z_iload_n C d_Md_value_0 rfl 2 rfl ?_
  refine z_if_lt (tgt := 48) C d_Md_value_1 (by decide) (fun c_1 => ?_) (fun c_1 => ?_)
  · have hf := zif_pos c_1 hf
    exact k_Md_value_j48 C hr hf
  · have hf := zif_neg c_1 hf
    refine z_iload_n C d_Md_value_4 rfl 2 rfl ?_
    refine z_iconst (v := 1) C d_Md_value_5 (by decide) ?_
    refine z_aload_n C d_Md_value_6 rfl 0 rfl ?_
    refine z_get C iw_Md 0 rfl rfl 1 (by decide) zw_499 rfl d_Md_value_7 ?_
    refine z_ishl C d_Md_value_10 ?_
    refine z_icmp_ge (tgt := 48) C d_Md_value_11 (by decide) (fun c_2 => ?_) (fun c_2 => ?_)
    · have hf := zif_pos c_2 hf
      exact k_Md_value_j48 C hr hf
    · have hf := zif_neg c_2 hf
      refine z_iload_n C d_Md_value_14 rfl 3 rfl ?_
      refine z_if_lt (tgt := 48) C d_Md_value_15 (by decide) (fun c_3 => ?_) (fun c_3 => ?_)
      · have hf := zif_pos c_3 hf
        exact k_Md_value_j48 C hr hf
      · have hf := zif_neg c_3 hf
        refine z_iload_n C d_Md_value_18 rfl 3 rfl ?_
        refine z_iconst (v := 4) C d_Md_value_19 (by decide) ?_
        refine z_icmp_gt (tgt := 48) C d_Md_value_20 (by decide) (fun c_4 => ?_) (fun c_4 => ?_)
        · have hf := zif_pos c_4 hf
          exact k_Md_value_j48 C hr hf
        · have hf := zif_neg c_4 hf
          refine z_aload_n C d_Md_value_23 rfl 0 rfl ?_
          refine z_get C iw_Md 0 rfl rfl 2 (by decide) zw_500 rfl d_Md_value_24 ?_
          refine z_if_eq (tgt := 44) C d_Md_value_27 (by decide) (fun c_5 => ?_) (fun c_5 => ?_)
          · have hf := zif_pos c_5 hf
            exact k_Md_value_j44 C hr hf
          · have hf := zif_neg c_5 hf
            refine z_iload_n C d_Md_value_30 rfl 1 rfl ?_
            refine z_if_lt (tgt := 48) C d_Md_value_31 (by decide) (fun c_6 => ?_) (fun c_6 => ?_)
            · have hf := zif_pos c_6 hf
              exact k_Md_value_j48 C hr hf
            · have hf := zif_neg c_6 hf
              refine z_iload_n C d_Md_value_34 rfl 1 rfl ?_
              refine z_iconst (v := 1) C d_Md_value_35 (by decide) ?_
              refine z_aload_n C d_Md_value_36 rfl 0 rfl ?_
              refine z_get C iw_Md 0 rfl rfl 1 (by decide) zw_499 rfl d_Md_value_37 ?_
              refine z_ishl C d_Md_value_40 ?_
              refine z_icmp_ge (tgt := 48) C d_Md_value_41 (by decide) (fun c_7 => ?_) (fun c_7 => ?_)
              · have hf := zif_pos c_7 hf
                exact k_Md_value_j48 C hr hf
              · have hf := zif_neg c_7 hf
                exact k_Md_value_j44 C hr hf
theorem c_Md_value {l : Launch} {D : va_G} {cI cL : ClassId} {h_this h_this_number h_this_set h_this_constant h_this_ruleKind h_this_ruleBit h_this_ruleOther h_this_oldSet h_this_oldNumber h_this_allSets h_this_allNumbers h_this_root : Nat} {v_thrown v_wires v_isOpen v_isEmpty v_came v_there v_halves v_rules v_alone v_halfBits v_allMany o_thrown o_allMany x1 x2 x3 : Int32} {v_root o_root : Nat → Int64} {v_number v_allSets v_allNumbers v_set v_constant o_allSets o_allNumbers : Nat → Int32} {rr : Int64} (hf : f_Md_value x1 x2 x3 v_thrown v_wires v_isOpen v_isEmpty v_there v_halves v_allMany v_root v_number v_allSets v_allNumbers v_set v_constant = some (rr, o_thrown, o_allMany, o_root, o_allSets, o_allNumbers)) : zM l y_Md_value (Cond.code y_Md_value b_Md_value 9 (some .long) :: zT) rm_Md_value D vwCl [(cI, .int), (cL, .long)] [.ref h_this, .int x1, .int x2, .int x3] [(h_this, .inr (5, [.int v_thrown, .int v_wires, .int v_isOpen, .int v_isEmpty, .int v_came, .int v_there, .int v_halves, .ref h_this_number, .ref h_this_set, .ref h_this_constant, .int v_rules, .ref h_this_ruleKind, .ref h_this_ruleBit, .ref h_this_ruleOther, .int v_alone, .int v_halfBits, .ref h_this_oldSet, .ref h_this_oldNumber, .ref h_this_allSets, .ref h_this_allNumbers, .int v_allMany, .ref h_this_root])), (h_this_root, .inl (cL, 5, .inr (.inl v_root))), (h_this_number, .inl (cI, 15625, .inl v_number)), (h_this_allSets, .inl (cI, 2325, .inl v_allSets)), (h_this_allNumbers, .inl (cI, 2325, .inl v_allNumbers)), (h_this_set, .inl (cI, 6, .inl v_set)), (h_this_constant, .inl (cI, 6, .inl v_constant))] [(h_this, .inr (5, [.int o_thrown, .int v_wires, .int v_isOpen, .int v_isEmpty, .int v_came, .int v_there, .int v_halves, .ref h_this_number, .ref h_this_set, .ref h_this_constant, .int v_rules, .ref h_this_ruleKind, .ref h_this_ruleBit, .ref h_this_ruleOther, .int v_alone, .int v_halfBits, .ref h_this_oldSet, .ref h_this_oldNumber, .ref h_this_allSets, .ref h_this_allNumbers, .int o_allMany, .ref h_this_root])), (h_this_root, .inl (cL, 5, .inr (.inl o_root))), (h_this_number, .inl (cI, 15625, .inl v_number)), (h_this_allSets, .inl (cI, 2325, .inl o_allSets)), (h_this_allNumbers, .inl (cI, 2325, .inl o_allNumbers)), (h_this_set, .inl (cI, 6, .inl v_set)), (h_this_constant, .inl (cI, 6, .inl v_constant))] (some (.long rr)) :=
  zM.intro (by decide) rfl (fun _ h => List.mem_cons_of_mem _ h) (Nat.le_of_ble_eq_true rfl) (fun _ _ _ _ _ _ _ C hr _ => k_Md_value C hr hf)
def rm_Md_total : Room := { frames := 1, cells := 0, slots := 0, locals := 24 }
/-- PathSumsModel.total(I)I -/
def f_Md_total (x1 : Int32) (v_thrown : Int32) (v_wires : Int32) (v_isOpen : Int32) (v_isEmpty : Int32) (v_came : Int32) (v_there : Int32) (v_rules : Int32) (v_allMany : Int32) (v_number : Nat → Int32) (v_allSets : Nat → Int32) (v_allNumbers : Nat → Int32) : Option (Int32 × Int32 × Int32 × (Nat → Int32) × (Nat → Int32)) :=
  if x1 = 0 then (
    some (v_wires, (0 : Int32), v_allMany, v_allSets, v_allNumbers))
  else (
  if x1 = 1 then (
    some (v_there, (0 : Int32), v_allMany, v_allSets, v_allNumbers))
  else (
  if x1 = 2 then (
    some (v_came, (0 : Int32), v_allMany, v_allSets, v_allNumbers))
  else (
  if x1 = 3 then (
    zb3 (f_Md_listAll v_allMany v_number v_allSets v_allNumbers) fun q_6 q_7 q_8 =>
    some (q_6, (0 : Int32), q_6, q_7, q_8))
  else (
  if x1 = 4 then (
    some (v_rules, (0 : Int32), v_allMany, v_allSets, v_allNumbers))
  else (
  if x1 = 5 then (
    if v_isEmpty = 0 then (
      some ((0 : Int32), (0 : Int32), v_allMany, v_allSets, v_allNumbers))
    else (
      some ((1 : Int32), (0 : Int32), v_allMany, v_allSets, v_allNumbers)))
  else (
  if x1 = 6 then (
    if v_isOpen = 0 then (
      some ((0 : Int32), (0 : Int32), v_allMany, v_allSets, v_allNumbers))
    else (
      some ((1 : Int32), (0 : Int32), v_allMany, v_allSets, v_allNumbers)))
  else (
  some ((-1 : Int32), (0 : Int32), v_allMany, v_allSets, v_allNumbers))))))))
set_option maxRecDepth 100000 in
set_option maxHeartbeats 4000000 in
theorem k_Md_total {p : Program} {l : Launch} {e : Env} {s : State} {m : MethodId} {args : Array Value} {below : List Frame} {meth : Method} {c : Code} {D : va_G} {cI cL : ClassId} {h_this h_this_number h_this_set h_this_constant h_this_ruleKind h_this_ruleBit h_this_ruleOther h_this_oldSet h_this_oldNumber h_this_allSets h_this_allNumbers h_this_root : Nat} {v_thrown v_wires v_isOpen v_isEmpty v_came v_there v_halves v_rules v_alone v_halfBits v_allMany rr o_thrown o_allMany x1 : Int32} {v_number v_allSets v_allNumbers o_allSets o_allNumbers : Nat → Int32} (C : zC p s m args meth c b_Md_total 2 R_Md D vwCl [(cI, .int), (cL, .long)] (zA [h_this, h_this_number, h_this_allSets, h_this_allNumbers] s.heap.size)) (hr : meth.sig.returnType = some .int) (hf : f_Md_total x1 v_thrown v_wires v_isOpen v_isEmpty v_came v_there v_rules v_allMany v_number v_allSets v_allNumbers = some (rr, o_thrown, o_allMany, o_allSets, o_allNumbers)) : ZV p l e rm_Md_total s m args below meth c 2 D (some (.int rr)) [(h_this, .inr (5, [.int o_thrown, .int v_wires, .int v_isOpen, .int v_isEmpty, .int v_came, .int v_there, .int v_halves, .ref h_this_number, .ref h_this_set, .ref h_this_constant, .int v_rules, .ref h_this_ruleKind, .ref h_this_ruleBit, .ref h_this_ruleOther, .int v_alone, .int v_halfBits, .ref h_this_oldSet, .ref h_this_oldNumber, .ref h_this_allSets, .ref h_this_allNumbers, .int o_allMany, .ref h_this_root])), (h_this_number, .inl (cI, 15625, .inl v_number)), (h_this_allSets, .inl (cI, 2325, .inl o_allSets)), (h_this_allNumbers, .inl (cI, 2325, .inl o_allNumbers))] [h_this, h_this_number, h_this_allSets, h_this_allNumbers] [(h_this, .inr (5, [.int v_thrown, .int v_wires, .int v_isOpen, .int v_isEmpty, .int v_came, .int v_there, .int v_halves, .ref h_this_number, .ref h_this_set, .ref h_this_constant, .int v_rules, .ref h_this_ruleKind, .ref h_this_ruleBit, .ref h_this_ruleOther, .int v_alone, .int v_halfBits, .ref h_this_oldSet, .ref h_this_oldNumber, .ref h_this_allSets, .ref h_this_allNumbers, .int v_allMany, .ref h_this_root])), (h_this_number, .inl (cI, 15625, .inl v_number)), (h_this_allSets, .inl (cI, 2325, .inl v_allSets)), (h_this_allNumbers, .inl (cI, 2325, .inl v_allNumbers))] 0 [(0, .ref h_this), (1, .int x1)] [] := by
  unfold f_Md_total at hf
  refine z_aload_n C d_Md_total_0 rfl 0 rfl ?_
  refine z_iconst (v := 0) C d_Md_total_1 (by decide) ?_
  refine z_put (ws' := [(h_this, .inr (5, [.int (0 : Int32), .int v_wires, .int v_isOpen, .int v_isEmpty, .int v_came, .int v_there, .int v_halves, .ref h_this_number, .ref h_this_set, .ref h_this_constant, .int v_rules, .ref h_this_ruleKind, .ref h_this_ruleBit, .ref h_this_ruleOther, .int v_alone, .int v_halfBits, .ref h_this_oldSet, .ref h_this_oldNumber, .ref h_this_allSets, .ref h_this_allNumbers, .int v_allMany, .ref h_this_root])), (h_this_number, .inl (cI, 15625, .inl v_number)), (h_this_allSets, .inl (cI, 2325, .inl v_allSets)), (h_this_allNumbers, .inl (cI, 2325, .inl v_allNumbers))]) C iw_Md t_Md t_Md_ok n_Md 0 rfl rfl 0 (by decide) zw_498 rfl (ty := .int) rfl rfl rfl (by simp) d_Md_total_2 rfl ?_
  refine z_iload_n C d_Md_total_5 rfl 1 rfl ?_
  by_cases c_1 : x1 = 0
  · have hf := zif_pos c_1 hf
    refine z_tableIn (tgt := 48) C d_Md_total_6 (0) c_1 (by decide) (by decide) rfl (by decide) ?_
    refine z_aload_n C d_Md_total_48 rfl 0 rfl ?_
    refine z_get C iw_Md 0 rfl rfl 1 (by decide) zw_499 rfl d_Md_total_49 ?_
    cases hf
    exact z_iret C hr d_Md_total_52
  · have hf := zif_neg c_1 hf
    by_cases c_2 : x1 = 1
    · have hf := zif_pos c_2 hf
      refine z_tableIn (tgt := 53) C d_Md_total_6 (1) c_2 (by decide) (by decide) rfl (by decide) ?_
      refine z_aload_n C d_Md_total_53 rfl 0 rfl ?_
      refine z_get C iw_Md 0 rfl rfl 5 (by decide) zw_503 rfl d_Md_total_54 ?_
      cases hf
      exact z_iret C hr d_Md_total_57
    · have hf := zif_neg c_2 hf
      by_cases c_3 : x1 = 2
      · have hf := zif_pos c_3 hf
        refine z_tableIn (tgt := 58) C d_Md_total_6 (2) c_3 (by decide) (by decide) rfl (by decide) ?_
        refine z_aload_n C d_Md_total_58 rfl 0 rfl ?_
        refine z_get C iw_Md 0 rfl rfl 4 (by decide) zw_502 rfl d_Md_total_59 ?_
        cases hf
        exact z_iret C hr d_Md_total_62
      · have hf := zif_neg c_3 hf
        by_cases c_4 : x1 = 3
        · have hf := zif_pos c_4 hf
          refine z_tableIn (tgt := 63) C d_Md_total_6 (3) c_4 (by decide) (by decide) rfl (by decide) ?_
          refine z_aload_n C d_Md_total_63 rfl 0 rfl ?_
          obtain ⟨q_6, q_7, q_8, h_5, hf⟩ := zb3_elim hf
          refine z_callV (As := []) (rest := []) (ws' := [(h_this, .inr (5, [.int (0 : Int32), .int v_wires, .int v_isOpen, .int v_isEmpty, .int v_came, .int v_there, .int v_halves, .ref h_this_number, .ref h_this_set, .ref h_this_constant, .int v_rules, .ref h_this_ruleKind, .ref h_this_ruleBit, .ref h_this_ruleOther, .int v_alone, .int v_halfBits, .ref h_this_oldSet, .ref h_this_oldNumber, .ref h_this_allSets, .ref h_this_allNumbers, .int q_6, .ref h_this_root])), (h_this_number, .inl (cI, 15625, .inl v_number)), (h_this_allSets, .inl (cI, 2325, .inl q_7)), (h_this_allNumbers, .inl (cI, 2325, .inl q_8))]) C (c_Md_listAll h_5) mi_Md_listAll zw_689 (by decide) 0 rfl rfl [0, 1, 2, 3] (by decide) rfl rfl rfl rfl rfl (by decide) ⟨Nat.zero_le _, Nat.zero_le _⟩ d_Md_total_64 ?_
          refine z_aload_n C d_Md_total_67 rfl 0 rfl ?_
          refine z_get C iw_Md 0 rfl rfl 20 (by decide) zw_518 rfl d_Md_total_68 ?_
          cases hf
          exact z_iret C hr d_Md_total_71
        · have hf := zif_neg c_4 hf
          by_cases c_9 : x1 = 4
          · have hf := zif_pos c_9 hf
            refine z_tableIn (tgt := 72) C d_Md_total_6 (4) c_9 (by decide) (by decide) rfl (by decide) ?_
            refine z_aload_n C d_Md_total_72 rfl 0 rfl ?_
            refine z_get C iw_Md 0 rfl rfl 10 (by decide) zw_508 rfl d_Md_total_73 ?_
            cases hf
            exact z_iret C hr d_Md_total_76
          · have hf := zif_neg c_9 hf
            by_cases c_10 : x1 = 5
            · have hf := zif_pos c_10 hf
              refine z_tableIn (tgt := 77) C d_Md_total_6 (5) c_10 (by decide) (by decide) rfl (by decide) ?_
              refine z_aload_n C d_Md_total_77 rfl 0 rfl ?_
              refine z_get C iw_Md 0 rfl rfl 3 (by decide) zw_501 rfl d_Md_total_78 ?_
              refine z_if_eq (tgt := 88) C d_Md_total_81 (by decide) (fun c_11 => ?_) (fun c_11 => ?_)
              · have hf := zif_pos c_11 hf
                refine z_iconst (v := 0) C d_Md_total_88 (by decide) ?_
                cases hf
                exact z_iret C hr d_Md_total_89
              · have hf := zif_neg c_11 hf
                refine z_iconst (v := 1) C d_Md_total_84 (by decide) ?_
                refine z_goto (tgt := 89) C d_Md_total_85 (by decide) ?_
                cases hf
                exact z_iret C hr d_Md_total_89
            · have hf := zif_neg c_10 hf
              by_cases c_12 : x1 = 6
              · have hf := zif_pos c_12 hf
                refine z_tableIn (tgt := 90) C d_Md_total_6 (6) c_12 (by decide) (by decide) rfl (by decide) ?_
                refine z_aload_n C d_Md_total_90 rfl 0 rfl ?_
                refine z_get C iw_Md 0 rfl rfl 2 (by decide) zw_500 rfl d_Md_total_91 ?_
                refine z_if_eq (tgt := 101) C d_Md_total_94 (by decide) (fun c_13 => ?_) (fun c_13 => ?_)
                · have hf := zif_pos c_13 hf
                  refine z_iconst (v := 0) C d_Md_total_101 (by decide) ?_
                  cases hf
                  exact z_iret C hr d_Md_total_102
                · have hf := zif_neg c_13 hf
                  refine z_iconst (v := 1) C d_Md_total_97 (by decide) ?_
                  refine z_goto (tgt := 102) C d_Md_total_98 (by decide) ?_
                  cases hf
                  exact z_iret C hr d_Md_total_102
              · have hf := zif_neg c_12 hf
                have nc_1 : ¬ x1.toInt = 0 := zne c_1
                have nc_2 : ¬ x1.toInt = 1 := zne c_2
                have nc_3 : ¬ x1.toInt = 2 := zne c_3
                have nc_4 : ¬ x1.toInt = 3 := zne c_4
                have nc_9 : ¬ x1.toInt = 4 := zne c_9
                have nc_10 : ¬ x1.toInt = 5 := zne c_10
                have nc_12 : ¬ x1.toInt = 6 := zne c_12
                refine z_tableOut (tgt := 103) C d_Md_total_6 (by omega) (by decide) ?_
                refine z_iconst (v := -1) C d_Md_total_103 (by decide) ?_
                cases hf
                exact z_iret C hr d_Md_total_104
theorem c_Md_total {l : Launch} {D : va_G} {cI cL : ClassId} {h_this h_this_number h_this_set h_this_constant h_this_ruleKind h_this_ruleBit h_this_ruleOther h_this_oldSet h_this_oldNumber h_this_allSets h_this_allNumbers h_this_root : Nat} {v_thrown v_wires v_isOpen v_isEmpty v_came v_there v_halves v_rules v_alone v_halfBits v_allMany rr o_thrown o_allMany x1 : Int32} {v_number v_allSets v_allNumbers o_allSets o_allNumbers : Nat → Int32} (hf : f_Md_total x1 v_thrown v_wires v_isOpen v_isEmpty v_came v_there v_rules v_allMany v_number v_allSets v_allNumbers = some (rr, o_thrown, o_allMany, o_allSets, o_allNumbers)) : zM l y_Md_total (Cond.code y_Md_total b_Md_total 2 (some .int) :: zT) rm_Md_total D vwCl [(cI, .int), (cL, .long)] [.ref h_this, .int x1] [(h_this, .inr (5, [.int v_thrown, .int v_wires, .int v_isOpen, .int v_isEmpty, .int v_came, .int v_there, .int v_halves, .ref h_this_number, .ref h_this_set, .ref h_this_constant, .int v_rules, .ref h_this_ruleKind, .ref h_this_ruleBit, .ref h_this_ruleOther, .int v_alone, .int v_halfBits, .ref h_this_oldSet, .ref h_this_oldNumber, .ref h_this_allSets, .ref h_this_allNumbers, .int v_allMany, .ref h_this_root])), (h_this_number, .inl (cI, 15625, .inl v_number)), (h_this_allSets, .inl (cI, 2325, .inl v_allSets)), (h_this_allNumbers, .inl (cI, 2325, .inl v_allNumbers))] [(h_this, .inr (5, [.int o_thrown, .int v_wires, .int v_isOpen, .int v_isEmpty, .int v_came, .int v_there, .int v_halves, .ref h_this_number, .ref h_this_set, .ref h_this_constant, .int v_rules, .ref h_this_ruleKind, .ref h_this_ruleBit, .ref h_this_ruleOther, .int v_alone, .int v_halfBits, .ref h_this_oldSet, .ref h_this_oldNumber, .ref h_this_allSets, .ref h_this_allNumbers, .int o_allMany, .ref h_this_root])), (h_this_number, .inl (cI, 15625, .inl v_number)), (h_this_allSets, .inl (cI, 2325, .inl o_allSets)), (h_this_allNumbers, .inl (cI, 2325, .inl o_allNumbers))] (some (.int rr)) :=
  zM.intro (by decide) rfl (fun _ h => List.mem_cons_of_mem _ h) (Nat.le_of_ble_eq_true rfl) (fun _ _ _ _ _ _ _ C hr _ => k_Md_total C hr hf)
def rm_Md_halves : Room := { frames := 0, cells := 0, slots := 0, locals := 0 }
/-- PathSumsModel.halves()I -/
def f_Md_halves (v_thrown : Int32) (v_halves : Int32) : Int32 × Int32 :=
  (v_halves, (0 : Int32))
set_option maxRecDepth 100000 in
set_option maxHeartbeats 4000000 in
theorem k_Md_halves {p : Program} {l : Launch} {e : Env} {s : State} {m : MethodId} {args : Array Value} {below : List Frame} {meth : Method} {c : Code} {D : va_G} {cI cL : ClassId} {h_this h_this_number h_this_set h_this_constant h_this_ruleKind h_this_ruleBit h_this_ruleOther h_this_oldSet h_this_oldNumber h_this_allSets h_this_allNumbers h_this_root : Nat} {v_thrown v_wires v_isOpen v_isEmpty v_came v_there v_halves v_rules v_alone v_halfBits v_allMany rr o_thrown : Int32} (C : zC p s m args meth c b_Md_halves 1 R_Md D vwCl [(cI, .int), (cL, .long)] (zA [h_this] s.heap.size)) (hr : meth.sig.returnType = some .int) (hf : f_Md_halves v_thrown v_halves = (rr, o_thrown)) : ZV p l e rm_Md_halves s m args below meth c 1 D (some (.int rr)) [(h_this, .inr (5, [.int o_thrown, .int v_wires, .int v_isOpen, .int v_isEmpty, .int v_came, .int v_there, .int v_halves, .ref h_this_number, .ref h_this_set, .ref h_this_constant, .int v_rules, .ref h_this_ruleKind, .ref h_this_ruleBit, .ref h_this_ruleOther, .int v_alone, .int v_halfBits, .ref h_this_oldSet, .ref h_this_oldNumber, .ref h_this_allSets, .ref h_this_allNumbers, .int v_allMany, .ref h_this_root]))] [h_this] [(h_this, .inr (5, [.int v_thrown, .int v_wires, .int v_isOpen, .int v_isEmpty, .int v_came, .int v_there, .int v_halves, .ref h_this_number, .ref h_this_set, .ref h_this_constant, .int v_rules, .ref h_this_ruleKind, .ref h_this_ruleBit, .ref h_this_ruleOther, .int v_alone, .int v_halfBits, .ref h_this_oldSet, .ref h_this_oldNumber, .ref h_this_allSets, .ref h_this_allNumbers, .int v_allMany, .ref h_this_root]))] 0 [(0, .ref h_this)] [] := by
  unfold f_Md_halves at hf
  refine z_aload_n C d_Md_halves_0 rfl 0 rfl ?_
  refine z_iconst (v := 0) C d_Md_halves_1 (by decide) ?_
  refine z_put (ws' := [(h_this, .inr (5, [.int (0 : Int32), .int v_wires, .int v_isOpen, .int v_isEmpty, .int v_came, .int v_there, .int v_halves, .ref h_this_number, .ref h_this_set, .ref h_this_constant, .int v_rules, .ref h_this_ruleKind, .ref h_this_ruleBit, .ref h_this_ruleOther, .int v_alone, .int v_halfBits, .ref h_this_oldSet, .ref h_this_oldNumber, .ref h_this_allSets, .ref h_this_allNumbers, .int v_allMany, .ref h_this_root]))]) C iw_Md t_Md t_Md_ok n_Md 0 rfl rfl 0 (by decide) zw_498 rfl (ty := .int) rfl rfl rfl (by simp) d_Md_halves_2 rfl ?_
  refine z_aload_n C d_Md_halves_5 rfl 0 rfl ?_
  refine z_get C iw_Md 0 rfl rfl 6 (by decide) zw_504 rfl d_Md_halves_6 ?_
  cases hf
  exact z_iret C hr d_Md_halves_9
theorem c_Md_halves {l : Launch} {D : va_G} {cI cL : ClassId} {h_this h_this_number h_this_set h_this_constant h_this_ruleKind h_this_ruleBit h_this_ruleOther h_this_oldSet h_this_oldNumber h_this_allSets h_this_allNumbers h_this_root : Nat} {v_thrown v_wires v_isOpen v_isEmpty v_came v_there v_halves v_rules v_alone v_halfBits v_allMany rr o_thrown : Int32} (hf : f_Md_halves v_thrown v_halves = (rr, o_thrown)) : zM l y_Md_halves (Cond.code y_Md_halves b_Md_halves 1 (some .int) :: zT) rm_Md_halves D vwCl [(cI, .int), (cL, .long)] [.ref h_this] [(h_this, .inr (5, [.int v_thrown, .int v_wires, .int v_isOpen, .int v_isEmpty, .int v_came, .int v_there, .int v_halves, .ref h_this_number, .ref h_this_set, .ref h_this_constant, .int v_rules, .ref h_this_ruleKind, .ref h_this_ruleBit, .ref h_this_ruleOther, .int v_alone, .int v_halfBits, .ref h_this_oldSet, .ref h_this_oldNumber, .ref h_this_allSets, .ref h_this_allNumbers, .int v_allMany, .ref h_this_root]))] [(h_this, .inr (5, [.int o_thrown, .int v_wires, .int v_isOpen, .int v_isEmpty, .int v_came, .int v_there, .int v_halves, .ref h_this_number, .ref h_this_set, .ref h_this_constant, .int v_rules, .ref h_this_ruleKind, .ref h_this_ruleBit, .ref h_this_ruleOther, .int v_alone, .int v_halfBits, .ref h_this_oldSet, .ref h_this_oldNumber, .ref h_this_allSets, .ref h_this_allNumbers, .int v_allMany, .ref h_this_root]))] (some (.int rr)) :=
  zM.intro (by decide) rfl (fun _ h => List.mem_cons_of_mem _ h) (Nat.le_of_ble_eq_true rfl) (fun _ _ _ _ _ _ _ C hr _ => k_Md_halves C hr hf)
