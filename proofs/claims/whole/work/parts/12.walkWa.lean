def rm_Dr_keep : Room := { frames := 0, cells := 0, slots := 0, locals := 0 }
/-- PathSums$DoneRules.keep(III)V -/
def f_Dr_keep (x1 : Int32) (x2 : Int32) (x3 : Int32) (v_count : Int32) (v_kinds : Nat → Int32) (v_ys : Nat → Int32) (v_zs : Nat → Int32) : Option (Int32 × (Nat → Int32) × (Nat → Int32) × (Nat → Int32)) :=
  if v_count < 0 then (
    some (v_count, v_kinds, v_ys, v_zs))
  else (
    if v_count < (24 : Int32) then (
      if v_count < 0 ∨ 24 ≤ v_count.toNatClampNeg then none else
      zlet (upd v_kinds v_count.toNatClampNeg x1) fun u_4 =>
      if v_count < 0 ∨ 24 ≤ v_count.toNatClampNeg then none else
      zlet (upd v_ys v_count.toNatClampNeg x2) fun u_6 =>
      if v_count < 0 ∨ 24 ≤ v_count.toNatClampNeg then none else
      zlet (upd v_zs v_count.toNatClampNeg x3) fun u_8 =>
      zlet (v_count + (1 : Int32)) fun y_9 =>
      some (y_9, u_4, u_6, u_8))
    else (
      some (v_count, v_kinds, v_ys, v_zs)))
set_option maxRecDepth 100000 in
set_option maxHeartbeats 4000000 in
theorem k_Dr_keep {p : Program} {l : Launch} {e : Env} {s : State} {m : MethodId} {args : Array Value} {below : List Frame} {meth : Method} {c : Code} {D : va_G} {cI cL : ClassId} {h_this h_this_kinds h_this_ys h_this_zs : Nat} {v_count o_count x1 x2 x3 : Int32} {v_kinds v_ys v_zs o_kinds o_ys o_zs : Nat → Int32} (C : zC p s m args meth c b_Dr_keep 4 R_Dr D vwCl [(cI, .int), (cL, .long)] (zA [h_this, h_this_kinds, h_this_ys, h_this_zs] s.heap.size)) (hr : meth.sig.returnType = none) (hf : f_Dr_keep x1 x2 x3 v_count v_kinds v_ys v_zs = some (o_count, o_kinds, o_ys, o_zs)) : ZV p l e rm_Dr_keep s m args below meth c 4 D (none) [(h_this, .inr (0, [.ref h_this_kinds, .ref h_this_ys, .ref h_this_zs, .int o_count])), (h_this_kinds, .inl (cI, 24, .inl o_kinds)), (h_this_ys, .inl (cI, 24, .inl o_ys)), (h_this_zs, .inl (cI, 24, .inl o_zs))] [h_this, h_this_kinds, h_this_ys, h_this_zs] [(h_this, .inr (0, [.ref h_this_kinds, .ref h_this_ys, .ref h_this_zs, .int v_count])), (h_this_kinds, .inl (cI, 24, .inl v_kinds)), (h_this_ys, .inl (cI, 24, .inl v_ys)), (h_this_zs, .inl (cI, 24, .inl v_zs))] 0 [(0, .ref h_this), (1, .int x1), (2, .int x2), (3, .int x3)] [] := by
  unfold f_Dr_keep at hf
  refine z_aload_n C d_Dr_keep_0 rfl 0 rfl ?_
  refine z_get C iw_Dr 0 rfl rfl 3 (by decide) zw_92 rfl d_Dr_keep_1 ?_
  refine z_if_lt (tgt := 16) C d_Dr_keep_4 (by decide) (fun c_1 => ?_) (fun c_1 => ?_)
  · have hf := zif_pos c_1 hf
    cases hf
    exact z_vret C hr d_Dr_keep_16
  · have hf := zif_neg c_1 hf
    refine z_aload_n C d_Dr_keep_7 rfl 0 rfl ?_
    refine z_get C iw_Dr 0 rfl rfl 3 (by decide) zw_92 rfl d_Dr_keep_8 ?_
    refine z_bipush (v := 24) C d_Dr_keep_11 (by decide) ?_
    refine z_icmp_lt (tgt := 17) C d_Dr_keep_13 (by decide) (fun c_2 => ?_) (fun c_2 => ?_)
    · have hf := zif_pos c_2 hf
      refine z_aload_n C d_Dr_keep_17 rfl 0 rfl ?_
      refine z_get C iw_Dr 0 rfl rfl 0 (by decide) zw_89 rfl d_Dr_keep_18 ?_
      refine z_aload_n C d_Dr_keep_21 rfl 0 rfl ?_
      refine z_get C iw_Dr 0 rfl rfl 3 (by decide) zw_92 rfl d_Dr_keep_22 ?_
      refine z_iload_n C d_Dr_keep_25 rfl 1 rfl ?_
      obtain ⟨g_3, hf⟩ := zguard hf
      obtain ⟨u_4, eu_4⟩ : ∃ u : Nat → Int32, u = upd v_kinds v_count.toNatClampNeg x1 := ⟨_, rfl⟩
      have hf := zlet_at eu_4 hf
      refine z_iast (ws' := [(h_this, .inr (0, [.ref h_this_kinds, .ref h_this_ys, .ref h_this_zs, .int v_count])), (h_this_kinds, .inl (cI, 24, .inl u_4)), (h_this_ys, .inl (cI, 24, .inl v_ys)), (h_this_zs, .inl (cI, 24, .inl v_zs))]) C 1 0 rfl rfl g_3 d_Dr_keep_26 (by rw [eu_4]; rfl) ?_
      refine z_aload_n C d_Dr_keep_27 rfl 0 rfl ?_
      refine z_get C iw_Dr 0 rfl rfl 1 (by decide) zw_90 rfl d_Dr_keep_28 ?_
      refine z_aload_n C d_Dr_keep_31 rfl 0 rfl ?_
      refine z_get C iw_Dr 0 rfl rfl 3 (by decide) zw_92 rfl d_Dr_keep_32 ?_
      refine z_iload_n C d_Dr_keep_35 rfl 2 rfl ?_
      obtain ⟨g_5, hf⟩ := zguard hf
      obtain ⟨u_6, eu_6⟩ : ∃ u : Nat → Int32, u = upd v_ys v_count.toNatClampNeg x2 := ⟨_, rfl⟩
      have hf := zlet_at eu_6 hf
      refine z_iast (ws' := [(h_this, .inr (0, [.ref h_this_kinds, .ref h_this_ys, .ref h_this_zs, .int v_count])), (h_this_kinds, .inl (cI, 24, .inl u_4)), (h_this_ys, .inl (cI, 24, .inl u_6)), (h_this_zs, .inl (cI, 24, .inl v_zs))]) C 2 0 rfl rfl g_5 d_Dr_keep_36 (by rw [eu_6]; rfl) ?_
      refine z_aload_n C d_Dr_keep_37 rfl 0 rfl ?_
      refine z_get C iw_Dr 0 rfl rfl 2 (by decide) zw_91 rfl d_Dr_keep_38 ?_
      refine z_aload_n C d_Dr_keep_41 rfl 0 rfl ?_
      refine z_get C iw_Dr 0 rfl rfl 3 (by decide) zw_92 rfl d_Dr_keep_42 ?_
      refine z_iload_n C d_Dr_keep_45 rfl 3 rfl ?_
      obtain ⟨g_7, hf⟩ := zguard hf
      obtain ⟨u_8, eu_8⟩ : ∃ u : Nat → Int32, u = upd v_zs v_count.toNatClampNeg x3 := ⟨_, rfl⟩
      have hf := zlet_at eu_8 hf
      refine z_iast (ws' := [(h_this, .inr (0, [.ref h_this_kinds, .ref h_this_ys, .ref h_this_zs, .int v_count])), (h_this_kinds, .inl (cI, 24, .inl u_4)), (h_this_ys, .inl (cI, 24, .inl u_6)), (h_this_zs, .inl (cI, 24, .inl u_8))]) C 3 0 rfl rfl g_7 d_Dr_keep_46 (by rw [eu_8]; rfl) ?_
      refine z_aload_n C d_Dr_keep_47 rfl 0 rfl ?_
      refine z_dup C d_Dr_keep_48 rfl ?_
      refine z_get C iw_Dr 0 rfl rfl 3 (by decide) zw_92 rfl d_Dr_keep_49 ?_
      refine z_iconst (v := 1) C d_Dr_keep_52 (by decide) ?_
      refine z_iadd C d_Dr_keep_53 ?_
      refine z_topi (fun y_9 ey_9 => ?_)
      have hf := zlet_at ey_9 hf
      refine z_put (ws' := [(h_this, .inr (0, [.ref h_this_kinds, .ref h_this_ys, .ref h_this_zs, .int y_9])), (h_this_kinds, .inl (cI, 24, .inl u_4)), (h_this_ys, .inl (cI, 24, .inl u_6)), (h_this_zs, .inl (cI, 24, .inl u_8))]) C iw_Dr t_Dr t_Dr_ok n_Dr 0 rfl rfl 3 (by decide) zw_92 rfl (ty := .int) rfl rfl rfl (by simp) d_Dr_keep_54 rfl ?_
      cases hf
      exact z_vret C hr d_Dr_keep_57
    · have hf := zif_neg c_2 hf
      cases hf
      exact z_vret C hr d_Dr_keep_16
theorem c_Dr_keep {l : Launch} {D : va_G} {cI cL : ClassId} {h_this h_this_kinds h_this_ys h_this_zs : Nat} {v_count o_count x1 x2 x3 : Int32} {v_kinds v_ys v_zs o_kinds o_ys o_zs : Nat → Int32} (hf : f_Dr_keep x1 x2 x3 v_count v_kinds v_ys v_zs = some (o_count, o_kinds, o_ys, o_zs)) : zM l y_Dr_keep (Cond.code y_Dr_keep b_Dr_keep 4 none :: zT) rm_Dr_keep D vwCl [(cI, .int), (cL, .long)] [.ref h_this, .int x1, .int x2, .int x3] [(h_this, .inr (0, [.ref h_this_kinds, .ref h_this_ys, .ref h_this_zs, .int v_count])), (h_this_kinds, .inl (cI, 24, .inl v_kinds)), (h_this_ys, .inl (cI, 24, .inl v_ys)), (h_this_zs, .inl (cI, 24, .inl v_zs))] [(h_this, .inr (0, [.ref h_this_kinds, .ref h_this_ys, .ref h_this_zs, .int o_count])), (h_this_kinds, .inl (cI, 24, .inl o_kinds)), (h_this_ys, .inl (cI, 24, .inl o_ys)), (h_this_zs, .inl (cI, 24, .inl o_zs))] (none) :=
  zM.intro (by decide) rfl (fun _ h => List.mem_cons_of_mem _ h) (Nat.le_of_ble_eq_true rfl) (fun _ _ _ _ _ _ _ C hr _ => k_Dr_keep C hr hf)
def rm_Dr_look : Room := { frames := 0, cells := 0, slots := 0, locals := 0 }
/-- PathSums$DoneRules.look(II)I -/
def f_Dr_look (x1 : Int32) (x2 : Int32) (v_count : Int32) (v_kinds : Nat → Int32) (v_ys : Nat → Int32) (v_zs : Nat → Int32) : Option (Int32) :=
  if x1 < 0 then (
    some (-1 : Int32))
  else (
    if v_count ≤ x1 then (
      some (-1 : Int32))
    else (
      if x1 < (24 : Int32) then (
        if x2 = 0 then (
          if x1 < 0 ∨ 24 ≤ x1.toNatClampNeg then none else
          some (v_kinds x1.toNatClampNeg))
        else (
        if x2 = 1 then (
          if x1 < 0 ∨ 24 ≤ x1.toNatClampNeg then none else
          some (v_ys x1.toNatClampNeg))
        else (
        if x2 = 2 then (
          if x1 < 0 ∨ 24 ≤ x1.toNatClampNeg then none else
          some (v_zs x1.toNatClampNeg))
        else (
        some (-1 : Int32)))))
      else (
        some (-1 : Int32))))
set_option maxRecDepth 100000 in
set_option maxHeartbeats 4000000 in
theorem k_Dr_look {p : Program} {l : Launch} {e : Env} {s : State} {m : MethodId} {args : Array Value} {below : List Frame} {meth : Method} {c : Code} {D : va_G} {cI cL : ClassId} {h_this h_this_kinds h_this_ys h_this_zs : Nat} {v_count rr x1 x2 : Int32} {v_kinds v_ys v_zs : Nat → Int32} (C : zC p s m args meth c b_Dr_look 3 R_Dr D vwCl [(cI, .int), (cL, .long)] (zA [h_this, h_this_kinds, h_this_ys, h_this_zs] s.heap.size)) (hr : meth.sig.returnType = some .int) (hf : f_Dr_look x1 x2 v_count v_kinds v_ys v_zs = some rr) : ZV p l e rm_Dr_look s m args below meth c 3 D (some (.int rr)) [(h_this, .inr (0, [.ref h_this_kinds, .ref h_this_ys, .ref h_this_zs, .int v_count])), (h_this_kinds, .inl (cI, 24, .inl v_kinds)), (h_this_ys, .inl (cI, 24, .inl v_ys)), (h_this_zs, .inl (cI, 24, .inl v_zs))] [h_this, h_this_kinds, h_this_ys, h_this_zs] [(h_this, .inr (0, [.ref h_this_kinds, .ref h_this_ys, .ref h_this_zs, .int v_count])), (h_this_kinds, .inl (cI, 24, .inl v_kinds)), (h_this_ys, .inl (cI, 24, .inl v_ys)), (h_this_zs, .inl (cI, 24, .inl v_zs))] 0 [(0, .ref h_this), (1, .int x1), (2, .int x2)] [] := by
  unfold f_Dr_look at hf
  refine z_iload_n C d_Dr_look_0 rfl 1 rfl ?_
  refine z_if_lt (tgt := 18) C d_Dr_look_1 (by decide) (fun c_1 => ?_) (fun c_1 => ?_)
  · have hf := zif_pos c_1 hf
    refine z_iconst (v := -1) C d_Dr_look_18 (by decide) ?_
    cases hf
    exact z_iret C hr d_Dr_look_19
  · have hf := zif_neg c_1 hf
    refine z_iload_n C d_Dr_look_4 rfl 1 rfl ?_
    refine z_aload_n C d_Dr_look_5 rfl 0 rfl ?_
    refine z_get C iw_Dr 0 rfl rfl 3 (by decide) zw_92 rfl d_Dr_look_6 ?_
    refine z_icmp_ge (tgt := 18) C d_Dr_look_9 (by decide) (fun c_2 => ?_) (fun c_2 => ?_)
    · have hf := zif_pos c_2 hf
      refine z_iconst (v := -1) C d_Dr_look_18 (by decide) ?_
      cases hf
      exact z_iret C hr d_Dr_look_19
    · have hf := zif_neg c_2 hf
      refine z_iload_n C d_Dr_look_12 rfl 1 rfl ?_
      refine z_bipush (v := 24) C d_Dr_look_13 (by decide) ?_
      refine z_icmp_lt (tgt := 20) C d_Dr_look_15 (by decide) (fun c_3 => ?_) (fun c_3 => ?_)
      · have hf := zif_pos c_3 hf
        refine z_iload_n C d_Dr_look_20 rfl 2 rfl ?_
        by_cases c_4 : x2 = 0
        · have hf := zif_pos c_4 hf
          refine z_tableIn (tgt := 48) C d_Dr_look_21 (0) c_4 (by decide) (by decide) rfl (by decide) ?_
          refine z_aload_n C d_Dr_look_48 rfl 0 rfl ?_
          refine z_get C iw_Dr 0 rfl rfl 0 (by decide) zw_89 rfl d_Dr_look_49 ?_
          refine z_iload_n C d_Dr_look_52 rfl 1 rfl ?_
          obtain ⟨g_5, hf⟩ := zguard hf
          refine z_iald C 1 0 rfl rfl g_5 d_Dr_look_53 ?_
          cases hf
          exact z_iret C hr d_Dr_look_54
        · have hf := zif_neg c_4 hf
          by_cases c_6 : x2 = 1
          · have hf := zif_pos c_6 hf
            refine z_tableIn (tgt := 55) C d_Dr_look_21 (1) c_6 (by decide) (by decide) rfl (by decide) ?_
            refine z_aload_n C d_Dr_look_55 rfl 0 rfl ?_
            refine z_get C iw_Dr 0 rfl rfl 1 (by decide) zw_90 rfl d_Dr_look_56 ?_
            refine z_iload_n C d_Dr_look_59 rfl 1 rfl ?_
            obtain ⟨g_7, hf⟩ := zguard hf
            refine z_iald C 2 0 rfl rfl g_7 d_Dr_look_60 ?_
            cases hf
            exact z_iret C hr d_Dr_look_61
          · have hf := zif_neg c_6 hf
            by_cases c_8 : x2 = 2
            · have hf := zif_pos c_8 hf
              refine z_tableIn (tgt := 62) C d_Dr_look_21 (2) c_8 (by decide) (by decide) rfl (by decide) ?_
              refine z_aload_n C d_Dr_look_62 rfl 0 rfl ?_
              refine z_get C iw_Dr 0 rfl rfl 2 (by decide) zw_91 rfl d_Dr_look_63 ?_
              refine z_iload_n C d_Dr_look_66 rfl 1 rfl ?_
              obtain ⟨g_9, hf⟩ := zguard hf
              refine z_iald C 3 0 rfl rfl g_9 d_Dr_look_67 ?_
              cases hf
              exact z_iret C hr d_Dr_look_68
            · have hf := zif_neg c_8 hf
              have nc_4 : ¬ x2.toInt = 0 := zne c_4
              have nc_6 : ¬ x2.toInt = 1 := zne c_6
              have nc_8 : ¬ x2.toInt = 2 := zne c_8
              refine z_tableOut (tgt := 69) C d_Dr_look_21 (by omega) (by decide) ?_
              refine z_iconst (v := -1) C d_Dr_look_69 (by decide) ?_
              cases hf
              exact z_iret C hr d_Dr_look_70
      · have hf := zif_neg c_3 hf
        refine z_iconst (v := -1) C d_Dr_look_18 (by decide) ?_
        cases hf
        exact z_iret C hr d_Dr_look_19
theorem c_Dr_look {l : Launch} {D : va_G} {cI cL : ClassId} {h_this h_this_kinds h_this_ys h_this_zs : Nat} {v_count rr x1 x2 : Int32} {v_kinds v_ys v_zs : Nat → Int32} (hf : f_Dr_look x1 x2 v_count v_kinds v_ys v_zs = some rr) : zM l y_Dr_look (Cond.code y_Dr_look b_Dr_look 3 (some .int) :: zT) rm_Dr_look D vwCl [(cI, .int), (cL, .long)] [.ref h_this, .int x1, .int x2] [(h_this, .inr (0, [.ref h_this_kinds, .ref h_this_ys, .ref h_this_zs, .int v_count])), (h_this_kinds, .inl (cI, 24, .inl v_kinds)), (h_this_ys, .inl (cI, 24, .inl v_ys)), (h_this_zs, .inl (cI, 24, .inl v_zs))] [(h_this, .inr (0, [.ref h_this_kinds, .ref h_this_ys, .ref h_this_zs, .int v_count])), (h_this_kinds, .inl (cI, 24, .inl v_kinds)), (h_this_ys, .inl (cI, 24, .inl v_ys)), (h_this_zs, .inl (cI, 24, .inl v_zs))] (some (.int rr)) :=
  zM.intro (by decide) rfl (fun _ h => List.mem_cons_of_mem _ h) (Nat.le_of_ble_eq_true rfl) (fun _ _ _ _ _ _ _ C hr _ => k_Dr_look C hr hf)
def rm_Wa_wiresWith : Room := { frames := 0, cells := 0, slots := 0, locals := 0 }
def f_Wa_wiresWith_l4 (x0 : Int32) (v_arg1 : Nat → Int32) (x2 : Int32) (x3 : Int32) : Option ((Int32 × Int32) ⊕ (Int32)) :=
  if (6 : Int32) ≤ x3 then (
    some (.inr (x2)))
  else (
    if (6 : Int32) ≤ x3 then (
      some (.inr (x2)))
    else (
      if x3 < 0 ∨ 6 ≤ x3.toNatClampNeg then none else
      zlet (x2 ||| (((zushr (v_arg1 x3.toNatClampNeg) x0) &&& (1 : Int32)) <<< (x3 &&& 31))) fun y_4 =>
      zlet (x3 + 1) fun y_5 =>
      some (.inl (y_4, y_5))))
set_option maxRecDepth 100000 in
set_option maxHeartbeats 4000000 in
theorem k_Wa_wiresWith_l4 {p : Program} {l : Launch} {e : Env} {s : State} {m : MethodId} {args : Array Value} {below : List Frame} {meth : Method} {c : Code} {D : va_G} {cI cL : ClassId} {h_arg1 : Nat} {v_arg1 : Nat → Int32} {rr x0 x2 x3 : Int32} (C : zC p s m args meth c b_Wa_wiresWith 4 R_Wa D vwCl [(cI, .int), (cL, .long)] (zA [h_arg1] s.heap.size)) (hr : meth.sig.returnType = some .int) {z : (Int32 × Int32) ⊕ (Int32)} (hf : f_Wa_wiresWith_l4 x0 v_arg1 x2 x3 = some z) (hK : zcase (fun q => ZV p l e rm_Wa_wiresWith s m args below meth c 4 D (some (.int rr)) [(h_arg1, .inl (cI, 6, .inl v_arg1))] [h_arg1] [(h_arg1, .inl (cI, 6, .inl v_arg1))] 4 [(0, .int x0), (1, .ref h_arg1), (2, .int q.1), (3, .int q.2)] []) (fun q => ZV p l e rm_Wa_wiresWith s m args below meth c 4 D (some (.int rr)) [(h_arg1, .inl (cI, 6, .inl v_arg1))] [h_arg1] [(h_arg1, .inl (cI, 6, .inl v_arg1))] 34 [(2, .int q)] []) z) : ZV p l e rm_Wa_wiresWith s m args below meth c 4 D (some (.int rr)) [(h_arg1, .inl (cI, 6, .inl v_arg1))] [h_arg1] [(h_arg1, .inl (cI, 6, .inl v_arg1))] 4 [(0, .int x0), (1, .ref h_arg1), (2, .int x2), (3, .int x3)] [] := by
  unfold f_Wa_wiresWith_l4 at hf
  refine z_iload_n C d_Wa_wiresWith_4 rfl 3 rfl ?_
  refine z_aload_n C d_Wa_wiresWith_5 rfl 1 rfl ?_
  refine z_alen (v := 6) C 0 0 rfl rfl (by decide) d_Wa_wiresWith_6 ?_
  refine z_icmp_ge (tgt := 34) C d_Wa_wiresWith_7 (by decide) (fun c_1 => ?_) (fun c_1 => ?_)
  · have hf := zif_pos c_1 hf
    refine z_lv [2] rfl ?_
    cases hf
    exact hK
  · have hf := zif_neg c_1 hf
    refine z_iload_n C d_Wa_wiresWith_10 rfl 3 rfl ?_
    refine z_bipush (v := 6) C d_Wa_wiresWith_11 (by decide) ?_
    refine z_icmp_ge (tgt := 34) C d_Wa_wiresWith_13 (by decide) (fun c_2 => ?_) (fun c_2 => ?_)
    · have hf := zif_pos c_2 hf
      refine z_lv [2] rfl ?_
      cases hf
      exact hK
    · have hf := zif_neg c_2 hf
      refine z_iload_n C d_Wa_wiresWith_16 rfl 2 rfl ?_
      refine z_aload_n C d_Wa_wiresWith_17 rfl 1 rfl ?_
      refine z_iload_n C d_Wa_wiresWith_18 rfl 3 rfl ?_
      obtain ⟨g_3, hf⟩ := zguard hf
      refine z_iald C 0 0 rfl rfl g_3 d_Wa_wiresWith_19 ?_
      refine z_iload_n C d_Wa_wiresWith_20 rfl 0 rfl ?_
      refine z_iushr C d_Wa_wiresWith_21 ?_
      refine z_iconst (v := 1) C d_Wa_wiresWith_22 (by decide) ?_
      refine z_iand C d_Wa_wiresWith_23 ?_
      refine z_iload_n C d_Wa_wiresWith_24 rfl 3 rfl ?_
      refine z_ishl C d_Wa_wiresWith_25 ?_
      refine z_ior C d_Wa_wiresWith_26 ?_
      refine z_topi (fun y_4 ey_4 => ?_)
      have hf := zlet_at ey_4 hf
      refine z_istore_n (lv' := [(2, .int y_4), (0, .int x0), (1, .ref h_arg1), (3, .int x3)]) C d_Wa_wiresWith_27 rfl (by decide) rfl ?_
      obtain ⟨y_5, ey_5⟩ : ∃ y : Int32, y = x3 + 1 := ⟨_, rfl⟩
      have hf := zlet_at ey_5 hf
      refine z_iinc (v := y_5) (lv' := [(3, .int y_5), (2, .int y_4), (0, .int x0), (1, .ref h_arg1)]) C d_Wa_wiresWith_28 (k := 3) rfl (by rw [ey_5]; rfl) (by decide) rfl ?_
      refine z_goto (tgt := 4) C d_Wa_wiresWith_31 (by decide) ?_
      refine z_lv [2, 3, 1, 0] rfl ?_
      cases hf
      exact hK
theorem k_Wa_wiresWith_l4_run {p : Program} {l : Launch} {e : Env} {s : State} {m : MethodId} {args : Array Value} {below : List Frame} {meth : Method} {c : Code} {D : va_G} {cI cL : ClassId} {h_arg1 : Nat} {v_arg1 : Nat → Int32} {rr x0 x2 x3 : Int32} (C : zC p s m args meth c b_Wa_wiresWith 4 R_Wa D vwCl [(cI, .int), (cL, .long)] (zA [h_arg1] s.heap.size)) (hr : meth.sig.returnType = some .int) {o0 : Int32} (hf : zloop (fun q => f_Wa_wiresWith_l4 x0 v_arg1 q.1 q.2) zF (x2, x3) = some o0) (hK : ZV p l e rm_Wa_wiresWith s m args below meth c 4 D (some (.int rr)) [(h_arg1, .inl (cI, 6, .inl v_arg1))] [h_arg1] [(h_arg1, .inl (cI, 6, .inl v_arg1))] 34 [(2, .int o0)] []) : ZV p l e rm_Wa_wiresWith s m args below meth c 4 D (some (.int rr)) [(h_arg1, .inl (cI, 6, .inl v_arg1))] [h_arg1] [(h_arg1, .inl (cI, 6, .inl v_arg1))] 4 [(0, .int x0), (1, .ref h_arg1), (2, .int x2), (3, .int x3)] [] :=
  zloop_run (P := fun q => ZV p l e rm_Wa_wiresWith s m args below meth c 4 D (some (.int rr)) [(h_arg1, .inl (cI, 6, .inl v_arg1))] [h_arg1] [(h_arg1, .inl (cI, 6, .inl v_arg1))] 4 [(0, .int x0), (1, .ref h_arg1), (2, .int q.1), (3, .int q.2)] []) (K := (fun q => ZV p l e rm_Wa_wiresWith s m args below meth c 4 D (some (.int rr)) [(h_arg1, .inl (cI, 6, .inl v_arg1))] [h_arg1] [(h_arg1, .inl (cI, 6, .inl v_arg1))] 34 [(2, .int q)] [])) (fun q z hz hK => k_Wa_wiresWith_l4 C hr hz hK) zF _ (o0) hf hK
/-- PathSums$Ways.wiresWith(I[I)I -/
def f_Wa_wiresWith (x0 : Int32) (v_arg1 : Nat → Int32) : Option (Int32) :=
  zb1 (zloop (fun q => f_Wa_wiresWith_l4 x0 v_arg1 q.1 q.2) zF ((0 : Int32), (0 : Int32))) fun y_1 =>
  some (y_1)
set_option maxRecDepth 100000 in
set_option maxHeartbeats 4000000 in
theorem k_Wa_wiresWith {p : Program} {l : Launch} {e : Env} {s : State} {m : MethodId} {args : Array Value} {below : List Frame} {meth : Method} {c : Code} {D : va_G} {cI cL : ClassId} {h_arg1 : Nat} {v_arg1 : Nat → Int32} {rr x0 : Int32} (C : zC p s m args meth c b_Wa_wiresWith 4 R_Wa D vwCl [(cI, .int), (cL, .long)] (zA [h_arg1] s.heap.size)) (hr : meth.sig.returnType = some .int) (hf : f_Wa_wiresWith x0 v_arg1 = some rr) : ZV p l e rm_Wa_wiresWith s m args below meth c 4 D (some (.int rr)) [(h_arg1, .inl (cI, 6, .inl v_arg1))] [h_arg1] [(h_arg1, .inl (cI, 6, .inl v_arg1))] 0 [(0, .int x0), (1, .ref h_arg1)] [] := by
  unfold f_Wa_wiresWith at hf
  refine z_iconst (v := 0) C d_Wa_wiresWith_0 (by decide) ?_
  refine z_istore_n (lv' := [(2, .int (0 : Int32)), (0, .int x0), (1, .ref h_arg1)]) C d_Wa_wiresWith_1 rfl (by decide) rfl ?_
  refine z_iconst (v := 0) C d_Wa_wiresWith_2 (by decide) ?_
  refine z_istore_n (lv' := [(3, .int (0 : Int32)), (2, .int (0 : Int32)), (0, .int x0), (1, .ref h_arg1)]) C d_Wa_wiresWith_3 rfl (by decide) rfl ?_
  refine z_lv [2, 3, 1, 0] rfl ?_
  obtain ⟨y_1, h_2, hf⟩ := zb1_elim hf
  refine k_Wa_wiresWith_l4_run C hr h_2 ?_
  refine z_iload_n C d_Wa_wiresWith_34 rfl 0 rfl ?_
  cases hf
  exact z_iret C hr d_Wa_wiresWith_35
theorem c_Wa_wiresWith {l : Launch} {D : va_G} {cI cL : ClassId} {h_arg1 : Nat} {v_arg1 : Nat → Int32} {rr x0 : Int32} (hf : f_Wa_wiresWith x0 v_arg1 = some rr) : zM l y_Wa_wiresWith (Cond.code y_Wa_wiresWith b_Wa_wiresWith 4 (some .int) :: zT) rm_Wa_wiresWith D vwCl [(cI, .int), (cL, .long)] [.int x0, .ref h_arg1] [(h_arg1, .inl (cI, 6, .inl v_arg1))] [(h_arg1, .inl (cI, 6, .inl v_arg1))] (some (.int rr)) :=
  zM.intro (by decide) rfl (fun _ h => List.mem_cons_of_mem _ h) (Nat.le_of_ble_eq_true rfl) (fun _ _ _ _ _ _ _ C hr _ => k_Wa_wiresWith C hr hf)
def rm_Wa_choose : Room := { frames := 1, cells := 0, slots := 0, locals := 23 }
def f_Wa_choose_l7 (x1 : Int32) (v_arg1 : Nat → Int32) (x3 : Int32) (v_chosen : Int32) (v_wayOf : Nat → Int32) (v_wiresOf : Nat → Int32) : Option ((Int32 × Int32 × (Nat → Int32) × (Nat → Int32)) ⊕ (Int32 × (Nat → Int32) × (Nat → Int32))) :=
  if (24 : Int32) ≤ x3 then (
    some (.inr (v_chosen, v_wayOf, v_wiresOf)))
  else (
    if x3 < 0 ∨ 24 ≤ x3.toNatClampNeg then none else
    zlet (upd v_wayOf x3.toNatClampNeg (0 : Int32)) fun u_3 =>
    if (f_Ps_has x1 x3) = 0 then (
      zlet (x3 + 1) fun y_6 =>
      some (.inl (y_6, v_chosen, u_3, v_wiresOf)))
    else (
      if (12 : Int32) ≤ v_chosen then (
        zlet (x3 + 1) fun y_8 =>
        some (.inl (y_8, v_chosen, u_3, v_wiresOf)))
      else (
        if x3 < 0 ∨ 24 ≤ x3.toNatClampNeg then none else
        zlet (upd u_3 x3.toNatClampNeg ((1 : Int32) <<< (v_chosen &&& 31))) fun u_10 =>
        zb1 (f_Wa_wiresWith x3 v_arg1) fun r_12 =>
        if v_chosen < 0 ∨ 12 ≤ v_chosen.toNatClampNeg then none else
        zlet (upd v_wiresOf v_chosen.toNatClampNeg r_12) fun u_14 =>
        zlet (v_chosen + (1 : Int32)) fun y_15 =>
        zlet (x3 + 1) fun y_16 =>
        some (.inl (y_16, y_15, u_10, u_14)))))
set_option maxRecDepth 100000 in
set_option maxHeartbeats 4000000 in
theorem k_Wa_choose_l7 {p : Program} {l : Launch} {e : Env} {s : State} {m : MethodId} {args : Array Value} {below : List Frame} {meth : Method} {c : Code} {D : va_G} {cI cL : ClassId} {h_this h_this_phases h_this_wayOf h_this_wiresOf h_this_tallies h_arg1 : Nat} {v_chosen o_chosen x1 x3 : Int32} {v_wayOf v_arg1 v_wiresOf o_wayOf o_wiresOf : Nat → Int32} (C : zC p s m args meth c b_Wa_choose 4 R_Wa D vwCl [(cI, .int), (cL, .long)] (zA [h_this, h_this_wayOf, h_arg1, h_this_wiresOf] s.heap.size)) (hr : meth.sig.returnType = none) {z : (Int32 × Int32 × (Nat → Int32) × (Nat → Int32)) ⊕ (Int32 × (Nat → Int32) × (Nat → Int32))} (hf : f_Wa_choose_l7 x1 v_arg1 x3 v_chosen v_wayOf v_wiresOf = some z) (hK : zcase (fun q => ZV p l e rm_Wa_choose s m args below meth c 4 D (none) [(h_this, .inr (3, [.ref h_this_phases, .ref h_this_wayOf, .ref h_this_wiresOf, .ref h_this_tallies, .int o_chosen])), (h_this_wayOf, .inl (cI, 24, .inl o_wayOf)), (h_arg1, .inl (cI, 6, .inl v_arg1)), (h_this_wiresOf, .inl (cI, 12, .inl o_wiresOf))] [h_this, h_this_wayOf, h_arg1, h_this_wiresOf] [(h_this, .inr (3, [.ref h_this_phases, .ref h_this_wayOf, .ref h_this_wiresOf, .ref h_this_tallies, .int q.2.1])), (h_this_wayOf, .inl (cI, 24, .inl q.2.2.1)), (h_arg1, .inl (cI, 6, .inl v_arg1)), (h_this_wiresOf, .inl (cI, 12, .inl q.2.2.2))] 7 [(0, .ref h_this), (1, .int x1), (2, .ref h_arg1), (3, .int q.1)] []) (fun q => ZV p l e rm_Wa_choose s m args below meth c 4 D (none) [(h_this, .inr (3, [.ref h_this_phases, .ref h_this_wayOf, .ref h_this_wiresOf, .ref h_this_tallies, .int o_chosen])), (h_this_wayOf, .inl (cI, 24, .inl o_wayOf)), (h_arg1, .inl (cI, 6, .inl v_arg1)), (h_this_wiresOf, .inl (cI, 12, .inl o_wiresOf))] [h_this, h_this_wayOf, h_arg1, h_this_wiresOf] [(h_this, .inr (3, [.ref h_this_phases, .ref h_this_wayOf, .ref h_this_wiresOf, .ref h_this_tallies, .int q.1])), (h_this_wayOf, .inl (cI, 24, .inl q.2.1)), (h_arg1, .inl (cI, 6, .inl v_arg1)), (h_this_wiresOf, .inl (cI, 12, .inl q.2.2))] 79 [] []) z) : ZV p l e rm_Wa_choose s m args below meth c 4 D (none) [(h_this, .inr (3, [.ref h_this_phases, .ref h_this_wayOf, .ref h_this_wiresOf, .ref h_this_tallies, .int o_chosen])), (h_this_wayOf, .inl (cI, 24, .inl o_wayOf)), (h_arg1, .inl (cI, 6, .inl v_arg1)), (h_this_wiresOf, .inl (cI, 12, .inl o_wiresOf))] [h_this, h_this_wayOf, h_arg1, h_this_wiresOf] [(h_this, .inr (3, [.ref h_this_phases, .ref h_this_wayOf, .ref h_this_wiresOf, .ref h_this_tallies, .int v_chosen])), (h_this_wayOf, .inl (cI, 24, .inl v_wayOf)), (h_arg1, .inl (cI, 6, .inl v_arg1)), (h_this_wiresOf, .inl (cI, 12, .inl v_wiresOf))] 7 [(0, .ref h_this), (1, .int x1), (2, .ref h_arg1), (3, .int x3)] [] := by
  unfold f_Wa_choose_l7 at hf
  refine z_iload_n C d_Wa_choose_7 rfl 3 rfl ?_
  refine z_bipush (v := 24) C d_Wa_choose_8 (by decide) ?_
  refine z_icmp_ge (tgt := 79) C d_Wa_choose_10 (by decide) (fun c_1 => ?_) (fun c_1 => ?_)
  · have hf := zif_pos c_1 hf
    refine z_lv [] rfl ?_
    cases hf
    exact hK
  · have hf := zif_neg c_1 hf
    refine z_aload_n C d_Wa_choose_13 rfl 0 rfl ?_
    refine z_get C iw_Wa 0 rfl rfl 1 (by decide) zw_110 rfl d_Wa_choose_14 ?_
    refine z_iload_n C d_Wa_choose_17 rfl 3 rfl ?_
    refine z_iconst (v := 0) C d_Wa_choose_18 (by decide) ?_
    obtain ⟨g_2, hf⟩ := zguard hf
    obtain ⟨u_3, eu_3⟩ : ∃ u : Nat → Int32, u = upd v_wayOf x3.toNatClampNeg (0 : Int32) := ⟨_, rfl⟩
    have hf := zlet_at eu_3 hf
    refine z_iast (ws' := [(h_this, .inr (3, [.ref h_this_phases, .ref h_this_wayOf, .ref h_this_wiresOf, .ref h_this_tallies, .int v_chosen])), (h_this_wayOf, .inl (cI, 24, .inl u_3)), (h_arg1, .inl (cI, 6, .inl v_arg1)), (h_this_wiresOf, .inl (cI, 12, .inl v_wiresOf))]) C 1 0 rfl rfl g_2 d_Wa_choose_19 (by rw [eu_3]; rfl) ?_
    refine z_iload_n C d_Wa_choose_20 rfl 1 rfl ?_
    refine z_iload_n C d_Wa_choose_21 rfl 3 rfl ?_
    refine z_callSN (As := [.int x1, .int x3]) (rest := []) (ws' := [(h_this, .inr (3, [.ref h_this_phases, .ref h_this_wayOf, .ref h_this_wiresOf, .ref h_this_tallies, .int v_chosen])), (h_this_wayOf, .inl (cI, 24, .inl u_3)), (h_arg1, .inl (cI, 6, .inl v_arg1)), (h_this_wiresOf, .inl (cI, 12, .inl v_wiresOf))]) C (c_Ps_has rfl) mi_Ps_has (znest C 8 rfl) (by decide) [] (by decide) rfl rfl rfl rfl rfl (by decide) ⟨Nat.zero_le _, Nat.zero_le _⟩ d_Wa_choose_22 ?_
    refine z_if_eq (tgt := 73) C d_Wa_choose_25 (by decide) (fun c_5 => ?_) (fun c_5 => ?_)
    · have hf := zif_pos c_5 hf
      obtain ⟨y_6, ey_6⟩ : ∃ y : Int32, y = x3 + 1 := ⟨_, rfl⟩
      have hf := zlet_at ey_6 hf
      refine z_iinc (v := y_6) (lv' := [(3, .int y_6), (0, .ref h_this), (1, .int x1), (2, .ref h_arg1)]) C d_Wa_choose_73 (k := 3) rfl (by rw [ey_6]; rfl) (by decide) rfl ?_
      refine z_goto (tgt := 7) C d_Wa_choose_76 (by decide) ?_
      refine z_lv [1, 2, 3, 0] rfl ?_
      cases hf
      exact hK
    · have hf := zif_neg c_5 hf
      refine z_aload_n C d_Wa_choose_28 rfl 0 rfl ?_
      refine z_get C iw_Wa 0 rfl rfl 4 (by decide) zw_114 rfl d_Wa_choose_29 ?_
      refine z_bipush (v := 12) C d_Wa_choose_32 (by decide) ?_
      refine z_icmp_ge (tgt := 73) C d_Wa_choose_34 (by decide) (fun c_7 => ?_) (fun c_7 => ?_)
      · have hf := zif_pos c_7 hf
        obtain ⟨y_8, ey_8⟩ : ∃ y : Int32, y = x3 + 1 := ⟨_, rfl⟩
        have hf := zlet_at ey_8 hf
        refine z_iinc (v := y_8) (lv' := [(3, .int y_8), (0, .ref h_this), (1, .int x1), (2, .ref h_arg1)]) C d_Wa_choose_73 (k := 3) rfl (by rw [ey_8]; rfl) (by decide) rfl ?_
        refine z_goto (tgt := 7) C d_Wa_choose_76 (by decide) ?_
        refine z_lv [1, 2, 3, 0] rfl ?_
        cases hf
        exact hK
      · have hf := zif_neg c_7 hf
        refine z_aload_n C d_Wa_choose_37 rfl 0 rfl ?_
        refine z_get C iw_Wa 0 rfl rfl 1 (by decide) zw_110 rfl d_Wa_choose_38 ?_
        refine z_iload_n C d_Wa_choose_41 rfl 3 rfl ?_
        refine z_iconst (v := 1) C d_Wa_choose_42 (by decide) ?_
        refine z_aload_n C d_Wa_choose_43 rfl 0 rfl ?_
        refine z_get C iw_Wa 0 rfl rfl 4 (by decide) zw_114 rfl d_Wa_choose_44 ?_
        refine z_ishl C d_Wa_choose_47 ?_
        obtain ⟨g_9, hf⟩ := zguard hf
        obtain ⟨u_10, eu_10⟩ : ∃ u : Nat → Int32, u = upd u_3 x3.toNatClampNeg ((1 : Int32) <<< (v_chosen &&& 31)) := ⟨_, rfl⟩
        have hf := zlet_at eu_10 hf
        refine z_iast (ws' := [(h_this, .inr (3, [.ref h_this_phases, .ref h_this_wayOf, .ref h_this_wiresOf, .ref h_this_tallies, .int v_chosen])), (h_this_wayOf, .inl (cI, 24, .inl u_10)), (h_arg1, .inl (cI, 6, .inl v_arg1)), (h_this_wiresOf, .inl (cI, 12, .inl v_wiresOf))]) C 1 0 rfl rfl g_9 d_Wa_choose_48 (by rw [eu_10]; rfl) ?_
        refine z_aload_n C d_Wa_choose_49 rfl 0 rfl ?_
        refine z_get C iw_Wa 0 rfl rfl 2 (by decide) zw_111 rfl d_Wa_choose_50 ?_
        refine z_aload_n C d_Wa_choose_53 rfl 0 rfl ?_
        refine z_get C iw_Wa 0 rfl rfl 4 (by decide) zw_114 rfl d_Wa_choose_54 ?_
        refine z_iload_n C d_Wa_choose_57 rfl 3 rfl ?_
        refine z_aload_n C d_Wa_choose_58 rfl 2 rfl ?_
        obtain ⟨r_12, h_11, hf⟩ := zb1_elim hf
        refine z_callS (As := [.int x3, .ref h_arg1]) (rest := [.int v_chosen, .ref h_this_wiresOf]) (ws' := [(h_this, .inr (3, [.ref h_this_phases, .ref h_this_wayOf, .ref h_this_wiresOf, .ref h_this_tallies, .int v_chosen])), (h_this_wayOf, .inl (cI, 24, .inl u_10)), (h_arg1, .inl (cI, 6, .inl v_arg1)), (h_this_wiresOf, .inl (cI, 12, .inl v_wiresOf))]) C (c_Wa_wiresWith h_11) mi_Wa_wiresWith zw_438 (by decide) [2] (by decide) rfl rfl rfl rfl rfl (by decide) ⟨Nat.zero_le _, Nat.zero_le _⟩ d_Wa_choose_59 ?_
        obtain ⟨g_13, hf⟩ := zguard hf
        obtain ⟨u_14, eu_14⟩ : ∃ u : Nat → Int32, u = upd v_wiresOf v_chosen.toNatClampNeg r_12 := ⟨_, rfl⟩
        have hf := zlet_at eu_14 hf
        refine z_iast (ws' := [(h_this, .inr (3, [.ref h_this_phases, .ref h_this_wayOf, .ref h_this_wiresOf, .ref h_this_tallies, .int v_chosen])), (h_this_wayOf, .inl (cI, 24, .inl u_10)), (h_arg1, .inl (cI, 6, .inl v_arg1)), (h_this_wiresOf, .inl (cI, 12, .inl u_14))]) C 3 0 rfl rfl g_13 d_Wa_choose_62 (by rw [eu_14]; rfl) ?_
        refine z_aload_n C d_Wa_choose_63 rfl 0 rfl ?_
        refine z_dup C d_Wa_choose_64 rfl ?_
        refine z_get C iw_Wa 0 rfl rfl 4 (by decide) zw_114 rfl d_Wa_choose_65 ?_
        refine z_iconst (v := 1) C d_Wa_choose_68 (by decide) ?_
        refine z_iadd C d_Wa_choose_69 ?_
        refine z_topi (fun y_15 ey_15 => ?_)
        have hf := zlet_at ey_15 hf
        refine z_put (ws' := [(h_this, .inr (3, [.ref h_this_phases, .ref h_this_wayOf, .ref h_this_wiresOf, .ref h_this_tallies, .int y_15])), (h_this_wayOf, .inl (cI, 24, .inl u_10)), (h_arg1, .inl (cI, 6, .inl v_arg1)), (h_this_wiresOf, .inl (cI, 12, .inl u_14))]) C iw_Wa t_Wa t_Wa_ok n_Wa 0 rfl rfl 4 (by decide) zw_114 rfl (ty := .int) rfl rfl rfl (by simp) d_Wa_choose_70 rfl ?_
        obtain ⟨y_16, ey_16⟩ : ∃ y : Int32, y = x3 + 1 := ⟨_, rfl⟩
        have hf := zlet_at ey_16 hf
        refine z_iinc (v := y_16) (lv' := [(3, .int y_16), (0, .ref h_this), (1, .int x1), (2, .ref h_arg1)]) C d_Wa_choose_73 (k := 3) rfl (by rw [ey_16]; rfl) (by decide) rfl ?_
        refine z_goto (tgt := 7) C d_Wa_choose_76 (by decide) ?_
        refine z_lv [1, 2, 3, 0] rfl ?_
        cases hf
        exact hK
theorem k_Wa_choose_l7_run {p : Program} {l : Launch} {e : Env} {s : State} {m : MethodId} {args : Array Value} {below : List Frame} {meth : Method} {c : Code} {D : va_G} {cI cL : ClassId} {h_this h_this_phases h_this_wayOf h_this_wiresOf h_this_tallies h_arg1 : Nat} {v_chosen o_chosen x1 x3 : Int32} {v_wayOf v_arg1 v_wiresOf o_wayOf o_wiresOf : Nat → Int32} (C : zC p s m args meth c b_Wa_choose 4 R_Wa D vwCl [(cI, .int), (cL, .long)] (zA [h_this, h_this_wayOf, h_arg1, h_this_wiresOf] s.heap.size)) (hr : meth.sig.returnType = none) {o0 : Int32} {o1 : Nat → Int32} {o2 : Nat → Int32} (hf : zloop (fun q => f_Wa_choose_l7 x1 v_arg1 q.1 q.2.1 q.2.2.1 q.2.2.2) zF (x3, v_chosen, v_wayOf, v_wiresOf) = some (o0, o1, o2)) (hK : ZV p l e rm_Wa_choose s m args below meth c 4 D (none) [(h_this, .inr (3, [.ref h_this_phases, .ref h_this_wayOf, .ref h_this_wiresOf, .ref h_this_tallies, .int o_chosen])), (h_this_wayOf, .inl (cI, 24, .inl o_wayOf)), (h_arg1, .inl (cI, 6, .inl v_arg1)), (h_this_wiresOf, .inl (cI, 12, .inl o_wiresOf))] [h_this, h_this_wayOf, h_arg1, h_this_wiresOf] [(h_this, .inr (3, [.ref h_this_phases, .ref h_this_wayOf, .ref h_this_wiresOf, .ref h_this_tallies, .int o0])), (h_this_wayOf, .inl (cI, 24, .inl o1)), (h_arg1, .inl (cI, 6, .inl v_arg1)), (h_this_wiresOf, .inl (cI, 12, .inl o2))] 79 [] []) : ZV p l e rm_Wa_choose s m args below meth c 4 D (none) [(h_this, .inr (3, [.ref h_this_phases, .ref h_this_wayOf, .ref h_this_wiresOf, .ref h_this_tallies, .int o_chosen])), (h_this_wayOf, .inl (cI, 24, .inl o_wayOf)), (h_arg1, .inl (cI, 6, .inl v_arg1)), (h_this_wiresOf, .inl (cI, 12, .inl o_wiresOf))] [h_this, h_this_wayOf, h_arg1, h_this_wiresOf] [(h_this, .inr (3, [.ref h_this_phases, .ref h_this_wayOf, .ref h_this_wiresOf, .ref h_this_tallies, .int v_chosen])), (h_this_wayOf, .inl (cI, 24, .inl v_wayOf)), (h_arg1, .inl (cI, 6, .inl v_arg1)), (h_this_wiresOf, .inl (cI, 12, .inl v_wiresOf))] 7 [(0, .ref h_this), (1, .int x1), (2, .ref h_arg1), (3, .int x3)] [] :=
  zloop_run (P := fun q => ZV p l e rm_Wa_choose s m args below meth c 4 D (none) [(h_this, .inr (3, [.ref h_this_phases, .ref h_this_wayOf, .ref h_this_wiresOf, .ref h_this_tallies, .int o_chosen])), (h_this_wayOf, .inl (cI, 24, .inl o_wayOf)), (h_arg1, .inl (cI, 6, .inl v_arg1)), (h_this_wiresOf, .inl (cI, 12, .inl o_wiresOf))] [h_this, h_this_wayOf, h_arg1, h_this_wiresOf] [(h_this, .inr (3, [.ref h_this_phases, .ref h_this_wayOf, .ref h_this_wiresOf, .ref h_this_tallies, .int q.2.1])), (h_this_wayOf, .inl (cI, 24, .inl q.2.2.1)), (h_arg1, .inl (cI, 6, .inl v_arg1)), (h_this_wiresOf, .inl (cI, 12, .inl q.2.2.2))] 7 [(0, .ref h_this), (1, .int x1), (2, .ref h_arg1), (3, .int q.1)] []) (K := (fun q => ZV p l e rm_Wa_choose s m args below meth c 4 D (none) [(h_this, .inr (3, [.ref h_this_phases, .ref h_this_wayOf, .ref h_this_wiresOf, .ref h_this_tallies, .int o_chosen])), (h_this_wayOf, .inl (cI, 24, .inl o_wayOf)), (h_arg1, .inl (cI, 6, .inl v_arg1)), (h_this_wiresOf, .inl (cI, 12, .inl o_wiresOf))] [h_this, h_this_wayOf, h_arg1, h_this_wiresOf] [(h_this, .inr (3, [.ref h_this_phases, .ref h_this_wayOf, .ref h_this_wiresOf, .ref h_this_tallies, .int q.1])), (h_this_wayOf, .inl (cI, 24, .inl q.2.1)), (h_arg1, .inl (cI, 6, .inl v_arg1)), (h_this_wiresOf, .inl (cI, 12, .inl q.2.2))] 79 [] [])) (fun q z hz hK => k_Wa_choose_l7 C hr hz hK) zF _ ((o0, o1, o2)) hf hK
/-- PathSums$Ways.choose(I[I)V -/
def f_Wa_choose (x1 : Int32) (v_chosen : Int32) (v_wayOf : Nat → Int32) (v_arg1 : Nat → Int32) (v_wiresOf : Nat → Int32) : Option (Int32 × (Nat → Int32) × (Nat → Int32)) :=
  zb3 (zloop (fun q => f_Wa_choose_l7 x1 v_arg1 q.1 q.2.1 q.2.2.1 q.2.2.2) zF ((0 : Int32), (0 : Int32), v_wayOf, v_wiresOf)) fun q_1 q_2 q_3 =>
  some (q_1, q_2, q_3)
set_option maxRecDepth 100000 in
set_option maxHeartbeats 4000000 in
theorem k_Wa_choose {p : Program} {l : Launch} {e : Env} {s : State} {m : MethodId} {args : Array Value} {below : List Frame} {meth : Method} {c : Code} {D : va_G} {cI cL : ClassId} {h_this h_this_phases h_this_wayOf h_this_wiresOf h_this_tallies h_arg1 : Nat} {v_chosen o_chosen x1 : Int32} {v_wayOf v_arg1 v_wiresOf o_wayOf o_wiresOf : Nat → Int32} (C : zC p s m args meth c b_Wa_choose 4 R_Wa D vwCl [(cI, .int), (cL, .long)] (zA [h_this, h_this_wayOf, h_arg1, h_this_wiresOf] s.heap.size)) (hr : meth.sig.returnType = none) (hf : f_Wa_choose x1 v_chosen v_wayOf v_arg1 v_wiresOf = some (o_chosen, o_wayOf, o_wiresOf)) : ZV p l e rm_Wa_choose s m args below meth c 4 D (none) [(h_this, .inr (3, [.ref h_this_phases, .ref h_this_wayOf, .ref h_this_wiresOf, .ref h_this_tallies, .int o_chosen])), (h_this_wayOf, .inl (cI, 24, .inl o_wayOf)), (h_arg1, .inl (cI, 6, .inl v_arg1)), (h_this_wiresOf, .inl (cI, 12, .inl o_wiresOf))] [h_this, h_this_wayOf, h_arg1, h_this_wiresOf] [(h_this, .inr (3, [.ref h_this_phases, .ref h_this_wayOf, .ref h_this_wiresOf, .ref h_this_tallies, .int v_chosen])), (h_this_wayOf, .inl (cI, 24, .inl v_wayOf)), (h_arg1, .inl (cI, 6, .inl v_arg1)), (h_this_wiresOf, .inl (cI, 12, .inl v_wiresOf))] 0 [(0, .ref h_this), (1, .int x1), (2, .ref h_arg1)] [] := by
  unfold f_Wa_choose at hf
  refine z_aload_n C d_Wa_choose_0 rfl 0 rfl ?_
  refine z_iconst (v := 0) C d_Wa_choose_1 (by decide) ?_
  refine z_put (ws' := [(h_this, .inr (3, [.ref h_this_phases, .ref h_this_wayOf, .ref h_this_wiresOf, .ref h_this_tallies, .int (0 : Int32)])), (h_this_wayOf, .inl (cI, 24, .inl v_wayOf)), (h_arg1, .inl (cI, 6, .inl v_arg1)), (h_this_wiresOf, .inl (cI, 12, .inl v_wiresOf))]) C iw_Wa t_Wa t_Wa_ok n_Wa 0 rfl rfl 4 (by decide) zw_114 rfl (ty := .int) rfl rfl rfl (by simp) d_Wa_choose_2 rfl ?_
  refine z_iconst (v := 0) C d_Wa_choose_5 (by decide) ?_
  refine z_istore_n (lv' := [(3, .int (0 : Int32)), (0, .ref h_this), (1, .int x1), (2, .ref h_arg1)]) C d_Wa_choose_6 rfl (by decide) rfl ?_
  refine z_lv [1, 2, 3, 0] rfl ?_
  obtain ⟨q_1, q_2, q_3, h_4, hf⟩ := zb3_elim hf
  refine k_Wa_choose_l7_run C hr h_4 ?_
  cases hf
  exact z_vret C hr d_Wa_choose_79
theorem c_Wa_choose {l : Launch} {D : va_G} {cI cL : ClassId} {h_this h_this_phases h_this_wayOf h_this_wiresOf h_this_tallies h_arg1 : Nat} {v_chosen o_chosen x1 : Int32} {v_wayOf v_arg1 v_wiresOf o_wayOf o_wiresOf : Nat → Int32} (hf : f_Wa_choose x1 v_chosen v_wayOf v_arg1 v_wiresOf = some (o_chosen, o_wayOf, o_wiresOf)) : zM l y_Wa_choose (Cond.code y_Wa_choose b_Wa_choose 4 none :: zT) rm_Wa_choose D vwCl [(cI, .int), (cL, .long)] [.ref h_this, .int x1, .ref h_arg1] [(h_this, .inr (3, [.ref h_this_phases, .ref h_this_wayOf, .ref h_this_wiresOf, .ref h_this_tallies, .int v_chosen])), (h_this_wayOf, .inl (cI, 24, .inl v_wayOf)), (h_arg1, .inl (cI, 6, .inl v_arg1)), (h_this_wiresOf, .inl (cI, 12, .inl v_wiresOf))] [(h_this, .inr (3, [.ref h_this_phases, .ref h_this_wayOf, .ref h_this_wiresOf, .ref h_this_tallies, .int o_chosen])), (h_this_wayOf, .inl (cI, 24, .inl o_wayOf)), (h_arg1, .inl (cI, 6, .inl v_arg1)), (h_this_wiresOf, .inl (cI, 12, .inl o_wiresOf))] (none) :=
  zM.intro (by decide) rfl (fun _ h => List.mem_cons_of_mem _ h) (Nat.le_of_ble_eq_true rfl) (fun _ _ _ _ _ _ _ C hr _ => k_Wa_choose C hr hf)
def rm_Wa_addNumber : Room := { frames := 0, cells := 0, slots := 0, locals := 0 }
/-- PathSums$Ways.addNumber(II)V -/
def f_Wa_addNumber (x1 : Int32) (x2 : Int32) (v_phases : Nat → Int32) : Option ((Nat → Int32)) :=
  if x1 < 0 then (
    some (v_phases))
  else (
    if (4096 : Int32) ≤ x1 then (
      some (v_phases))
    else (
      if x1 < 0 ∨ 4096 ≤ x1.toNatClampNeg then none else
      if x1 < 0 ∨ 4096 ≤ x1.toNatClampNeg then none else
      zlet (upd v_phases x1.toNatClampNeg ((v_phases x1.toNatClampNeg) + x2)) fun u_5 =>
      some (u_5)))
set_option maxRecDepth 100000 in
set_option maxHeartbeats 4000000 in
theorem k_Wa_addNumber {p : Program} {l : Launch} {e : Env} {s : State} {m : MethodId} {args : Array Value} {below : List Frame} {meth : Method} {c : Code} {D : va_G} {cI cL : ClassId} {h_this h_this_phases h_this_wayOf h_this_wiresOf h_this_tallies : Nat} {v_chosen x1 x2 : Int32} {v_phases o_phases : Nat → Int32} (C : zC p s m args meth c b_Wa_addNumber 3 R_Wa D vwCl [(cI, .int), (cL, .long)] (zA [h_this, h_this_phases] s.heap.size)) (hr : meth.sig.returnType = none) (hf : f_Wa_addNumber x1 x2 v_phases = some o_phases) : ZV p l e rm_Wa_addNumber s m args below meth c 3 D (none) [(h_this, .inr (3, [.ref h_this_phases, .ref h_this_wayOf, .ref h_this_wiresOf, .ref h_this_tallies, .int v_chosen])), (h_this_phases, .inl (cI, 4096, .inl o_phases))] [h_this, h_this_phases] [(h_this, .inr (3, [.ref h_this_phases, .ref h_this_wayOf, .ref h_this_wiresOf, .ref h_this_tallies, .int v_chosen])), (h_this_phases, .inl (cI, 4096, .inl v_phases))] 0 [(0, .ref h_this), (1, .int x1), (2, .int x2)] [] := by
  unfold f_Wa_addNumber at hf
  refine z_iload_n C d_Wa_addNumber_0 rfl 1 rfl ?_
  refine z_if_lt (tgt := 21) C d_Wa_addNumber_1 (by decide) (fun c_1 => ?_) (fun c_1 => ?_)
  · have hf := zif_pos c_1 hf
    cases hf
    exact z_vret C hr d_Wa_addNumber_21
  · have hf := zif_neg c_1 hf
    refine z_iload_n C d_Wa_addNumber_4 rfl 1 rfl ?_
    refine z_sipush (v := 4096) C d_Wa_addNumber_5 (by decide) ?_
    refine z_icmp_ge (tgt := 21) C d_Wa_addNumber_8 (by decide) (fun c_2 => ?_) (fun c_2 => ?_)
    · have hf := zif_pos c_2 hf
      cases hf
      exact z_vret C hr d_Wa_addNumber_21
    · have hf := zif_neg c_2 hf
      refine z_aload_n C d_Wa_addNumber_11 rfl 0 rfl ?_
      refine z_get C iw_Wa 0 rfl rfl 0 (by decide) zw_109 rfl d_Wa_addNumber_12 ?_
      refine z_iload_n C d_Wa_addNumber_15 rfl 1 rfl ?_
      refine z_dup2_11 C d_Wa_addNumber_16 rfl rfl ?_
      obtain ⟨g_3, hf⟩ := zguard hf
      refine z_iald C 1 0 rfl rfl g_3 d_Wa_addNumber_17 ?_
      refine z_iload_n C d_Wa_addNumber_18 rfl 2 rfl ?_
      refine z_iadd C d_Wa_addNumber_19 ?_
      obtain ⟨g_4, hf⟩ := zguard hf
      obtain ⟨u_5, eu_5⟩ : ∃ u : Nat → Int32, u = upd v_phases x1.toNatClampNeg ((v_phases x1.toNatClampNeg) + x2) := ⟨_, rfl⟩
      have hf := zlet_at eu_5 hf
      refine z_iast (ws' := [(h_this, .inr (3, [.ref h_this_phases, .ref h_this_wayOf, .ref h_this_wiresOf, .ref h_this_tallies, .int v_chosen])), (h_this_phases, .inl (cI, 4096, .inl u_5))]) C 1 0 rfl rfl g_4 d_Wa_addNumber_20 (by rw [eu_5]; rfl) ?_
      cases hf
      exact z_vret C hr d_Wa_addNumber_21
theorem c_Wa_addNumber {l : Launch} {D : va_G} {cI cL : ClassId} {h_this h_this_phases h_this_wayOf h_this_wiresOf h_this_tallies : Nat} {v_chosen x1 x2 : Int32} {v_phases o_phases : Nat → Int32} (hf : f_Wa_addNumber x1 x2 v_phases = some o_phases) : zM l y_Wa_addNumber (Cond.code y_Wa_addNumber b_Wa_addNumber 3 none :: zT) rm_Wa_addNumber D vwCl [(cI, .int), (cL, .long)] [.ref h_this, .int x1, .int x2] [(h_this, .inr (3, [.ref h_this_phases, .ref h_this_wayOf, .ref h_this_wiresOf, .ref h_this_tallies, .int v_chosen])), (h_this_phases, .inl (cI, 4096, .inl v_phases))] [(h_this, .inr (3, [.ref h_this_phases, .ref h_this_wayOf, .ref h_this_wiresOf, .ref h_this_tallies, .int v_chosen])), (h_this_phases, .inl (cI, 4096, .inl o_phases))] (none) :=
  zM.intro (by decide) rfl (fun _ h => List.mem_cons_of_mem _ h) (Nat.le_of_ble_eq_true rfl) (fun _ _ _ _ _ _ _ C hr _ => k_Wa_addNumber C hr hf)
def rm_Wa_layProductsBelow : Room := { frames := 3, cells := 0, slots := 0, locals := 69 }
def f_Wa_layProductsBelow_l59 (x1 : Int32) (x3 : Int32) (x4 : Int32) (x5 : Int32) (x6 : Int32) (v_wayOf : Nat → Int32) (v_arg1_numbers : Nat → Int32) (x7 : Int32) (v_phases : Nat → Int32) : Option ((Int32 × (Nat → Int32)) ⊕ ((Nat → Int32))) :=
  if x4 ≤ x7 then (
    some (.inr (v_phases)))
  else (
    if (f_Ps_has x3 x7) = 0 then (
      zlet (x7 + 1) fun y_4 =>
      some (.inl (y_4, v_phases)))
    else (
      if x7 < 0 ∨ 24 ≤ x7.toNatClampNeg then none else
      zb1 (f_Po_numberOf (x5 ||| ((1 : Int32) <<< (x7 &&& 31))) v_arg1_numbers) fun r_7 =>
      zb1 (f_Wa_addNumber (x6 ||| (v_wayOf x7.toNatClampNeg)) r_7 v_phases) fun q_9 =>
      zlet (x7 + 1) fun y_10 =>
      some (.inl (y_10, q_9))))
set_option maxRecDepth 100000 in
set_option maxHeartbeats 4000000 in
theorem k_Wa_layProductsBelow_l59 {p : Program} {l : Launch} {e : Env} {s : State} {m : MethodId} {args : Array Value} {below : List Frame} {meth : Method} {c : Code} {D : va_G} {cI cL : ClassId} {h_this h_this_phases h_this_wayOf h_this_wiresOf h_this_tallies h_arg1 h_arg1_numbers : Nat} {v_chosen v_arg1_monomials x1 x3 x4 x5 x6 x7 : Int32} {v_wayOf v_arg1_numbers v_phases o_phases : Nat → Int32} (C : zC p s m args meth c b_Wa_layProductsBelow 8 R_Wa D vwCl [(cI, .int), (cL, .long)] (zA [h_this, h_this_wayOf, h_arg1, h_arg1_numbers, h_this_phases] s.heap.size)) (hr : meth.sig.returnType = none) {z : (Int32 × (Nat → Int32)) ⊕ ((Nat → Int32))} (hf : f_Wa_layProductsBelow_l59 x1 x3 x4 x5 x6 v_wayOf v_arg1_numbers x7 v_phases = some z) (hK : zcase (fun q => ZV p l e rm_Wa_layProductsBelow s m args below meth c 8 D (none) [(h_this, .inr (3, [.ref h_this_phases, .ref h_this_wayOf, .ref h_this_wiresOf, .ref h_this_tallies, .int v_chosen])), (h_this_wayOf, .inl (cI, 24, .inl v_wayOf)), (h_arg1, .inr (1, [.ref h_arg1_numbers, .int v_arg1_monomials])), (h_arg1_numbers, .inl (cI, 2325, .inl v_arg1_numbers)), (h_this_phases, .inl (cI, 4096, .inl o_phases))] [h_this, h_this_wayOf, h_arg1, h_arg1_numbers, h_this_phases] [(h_this, .inr (3, [.ref h_this_phases, .ref h_this_wayOf, .ref h_this_wiresOf, .ref h_this_tallies, .int v_chosen])), (h_this_wayOf, .inl (cI, 24, .inl v_wayOf)), (h_arg1, .inr (1, [.ref h_arg1_numbers, .int v_arg1_monomials])), (h_arg1_numbers, .inl (cI, 2325, .inl v_arg1_numbers)), (h_this_phases, .inl (cI, 4096, .inl q.2))] 59 [(0, .ref h_this), (1, .int x1), (2, .ref h_arg1), (3, .int x3), (4, .int x4), (5, .int x5), (6, .int x6), (7, .int q.1)] []) (fun q => ZV p l e rm_Wa_layProductsBelow s m args below meth c 8 D (none) [(h_this, .inr (3, [.ref h_this_phases, .ref h_this_wayOf, .ref h_this_wiresOf, .ref h_this_tallies, .int v_chosen])), (h_this_wayOf, .inl (cI, 24, .inl v_wayOf)), (h_arg1, .inr (1, [.ref h_arg1_numbers, .int v_arg1_monomials])), (h_arg1_numbers, .inl (cI, 2325, .inl v_arg1_numbers)), (h_this_phases, .inl (cI, 4096, .inl o_phases))] [h_this, h_this_wayOf, h_arg1, h_arg1_numbers, h_this_phases] [(h_this, .inr (3, [.ref h_this_phases, .ref h_this_wayOf, .ref h_this_wiresOf, .ref h_this_tallies, .int v_chosen])), (h_this_wayOf, .inl (cI, 24, .inl v_wayOf)), (h_arg1, .inr (1, [.ref h_arg1_numbers, .int v_arg1_monomials])), (h_arg1_numbers, .inl (cI, 2325, .inl v_arg1_numbers)), (h_this_phases, .inl (cI, 4096, .inl q))] 106 [(0, .ref h_this), (1, .int x1), (2, .ref h_arg1), (3, .int x3), (4, .int x4)] []) z) : ZV p l e rm_Wa_layProductsBelow s m args below meth c 8 D (none) [(h_this, .inr (3, [.ref h_this_phases, .ref h_this_wayOf, .ref h_this_wiresOf, .ref h_this_tallies, .int v_chosen])), (h_this_wayOf, .inl (cI, 24, .inl v_wayOf)), (h_arg1, .inr (1, [.ref h_arg1_numbers, .int v_arg1_monomials])), (h_arg1_numbers, .inl (cI, 2325, .inl v_arg1_numbers)), (h_this_phases, .inl (cI, 4096, .inl o_phases))] [h_this, h_this_wayOf, h_arg1, h_arg1_numbers, h_this_phases] [(h_this, .inr (3, [.ref h_this_phases, .ref h_this_wayOf, .ref h_this_wiresOf, .ref h_this_tallies, .int v_chosen])), (h_this_wayOf, .inl (cI, 24, .inl v_wayOf)), (h_arg1, .inr (1, [.ref h_arg1_numbers, .int v_arg1_monomials])), (h_arg1_numbers, .inl (cI, 2325, .inl v_arg1_numbers)), (h_this_phases, .inl (cI, 4096, .inl v_phases))] 59 [(0, .ref h_this), (1, .int x1), (2, .ref h_arg1), (3, .int x3), (4, .int x4), (5, .int x5), (6, .int x6), (7, .int x7)] [] := by
  unfold f_Wa_layProductsBelow_l59 at hf
  refine z_iload C d_Wa_layProductsBelow_59 7 rfl ?_
  refine z_iload C d_Wa_layProductsBelow_61 4 rfl ?_
  refine z_icmp_ge (tgt := 106) C d_Wa_layProductsBelow_63 (by decide) (fun c_1 => ?_) (fun c_1 => ?_)
  · have hf := zif_pos c_1 hf
    refine z_lv [0, 1, 2, 3, 4] rfl ?_
    cases hf
    exact hK
  · have hf := zif_neg c_1 hf
    refine z_iload_n C d_Wa_layProductsBelow_66 rfl 3 rfl ?_
    refine z_iload C d_Wa_layProductsBelow_67 7 rfl ?_
    refine z_callSN (As := [.int x3, .int x7]) (rest := []) (ws' := [(h_this, .inr (3, [.ref h_this_phases, .ref h_this_wayOf, .ref h_this_wiresOf, .ref h_this_tallies, .int v_chosen])), (h_this_wayOf, .inl (cI, 24, .inl v_wayOf)), (h_arg1, .inr (1, [.ref h_arg1_numbers, .int v_arg1_monomials])), (h_arg1_numbers, .inl (cI, 2325, .inl v_arg1_numbers)), (h_this_phases, .inl (cI, 4096, .inl v_phases))]) C (c_Ps_has rfl) mi_Ps_has (znest C 8 rfl) (by decide) [] (by decide) rfl rfl rfl rfl rfl (by decide) ⟨Nat.zero_le _, Nat.zero_le _⟩ d_Wa_layProductsBelow_69 ?_
    refine z_if_eq (tgt := 100) C d_Wa_layProductsBelow_72 (by decide) (fun c_3 => ?_) (fun c_3 => ?_)
    · have hf := zif_pos c_3 hf
      obtain ⟨y_4, ey_4⟩ : ∃ y : Int32, y = x7 + 1 := ⟨_, rfl⟩
      have hf := zlet_at ey_4 hf
      refine z_iinc (v := y_4) (lv' := [(7, .int y_4), (0, .ref h_this), (1, .int x1), (2, .ref h_arg1), (3, .int x3), (4, .int x4), (5, .int x5), (6, .int x6)]) C d_Wa_layProductsBelow_100 (k := 7) rfl (by rw [ey_4]; rfl) (by decide) rfl ?_
      refine z_goto (tgt := 59) C d_Wa_layProductsBelow_103 (by decide) ?_
      refine z_lv [1, 2, 3, 4, 5, 6, 7, 0] rfl ?_
      cases hf
      exact hK
    · have hf := zif_neg c_3 hf
      refine z_aload_n C d_Wa_layProductsBelow_75 rfl 0 rfl ?_
      refine z_iload C d_Wa_layProductsBelow_76 6 rfl ?_
      refine z_aload_n C d_Wa_layProductsBelow_78 rfl 0 rfl ?_
      refine z_get C iw_Wa 0 rfl rfl 1 (by decide) zw_110 rfl d_Wa_layProductsBelow_79 ?_
      refine z_iload C d_Wa_layProductsBelow_82 7 rfl ?_
      obtain ⟨g_5, hf⟩ := zguard hf
      refine z_iald C 1 0 rfl rfl g_5 d_Wa_layProductsBelow_84 ?_
      refine z_ior C d_Wa_layProductsBelow_85 ?_
      refine z_aload_n C d_Wa_layProductsBelow_86 rfl 2 rfl ?_
      refine z_iload C d_Wa_layProductsBelow_87 5 rfl ?_
      refine z_iconst (v := 1) C d_Wa_layProductsBelow_89 (by decide) ?_
      refine z_iload C d_Wa_layProductsBelow_90 7 rfl ?_
      refine z_ishl C d_Wa_layProductsBelow_92 ?_
      refine z_ior C d_Wa_layProductsBelow_93 ?_
      obtain ⟨r_7, h_6, hf⟩ := zb1_elim hf
      refine z_callV (As := [.int (x5 ||| ((1 : Int32) <<< (x7 &&& 31)))]) (rest := [.int (x6 ||| (v_wayOf x7.toNatClampNeg)), .ref h_this]) (ws' := [(h_this, .inr (3, [.ref h_this_phases, .ref h_this_wayOf, .ref h_this_wiresOf, .ref h_this_tallies, .int v_chosen])), (h_this_wayOf, .inl (cI, 24, .inl v_wayOf)), (h_arg1, .inr (1, [.ref h_arg1_numbers, .int v_arg1_monomials])), (h_arg1_numbers, .inl (cI, 2325, .inl v_arg1_numbers)), (h_this_phases, .inl (cI, 4096, .inl v_phases))]) C (c_Po_numberOf h_6) mi_Po_numberOf zw_446 (by decide) 0 rfl rfl [2, 3] (by decide) rfl rfl rfl rfl rfl (by decide) ⟨Nat.zero_le _, Nat.zero_le _⟩ d_Wa_layProductsBelow_94 ?_
      obtain ⟨q_9, h_8, hf⟩ := zb1_elim hf
      refine z_callV (As := [.int (x6 ||| (v_wayOf x7.toNatClampNeg)), .int r_7]) (rest := []) (ws' := [(h_this, .inr (3, [.ref h_this_phases, .ref h_this_wayOf, .ref h_this_wiresOf, .ref h_this_tallies, .int v_chosen])), (h_this_wayOf, .inl (cI, 24, .inl v_wayOf)), (h_arg1, .inr (1, [.ref h_arg1_numbers, .int v_arg1_monomials])), (h_arg1_numbers, .inl (cI, 2325, .inl v_arg1_numbers)), (h_this_phases, .inl (cI, 4096, .inl q_9))]) C (c_Wa_addNumber h_8) mi_Wa_addNumber zw_447 (by decide) 0 rfl rfl [0, 4] (by decide) rfl rfl rfl rfl rfl (by decide) ⟨Nat.zero_le _, Nat.zero_le _⟩ d_Wa_layProductsBelow_97 ?_
      obtain ⟨y_10, ey_10⟩ : ∃ y : Int32, y = x7 + 1 := ⟨_, rfl⟩
      have hf := zlet_at ey_10 hf
      refine z_iinc (v := y_10) (lv' := [(7, .int y_10), (0, .ref h_this), (1, .int x1), (2, .ref h_arg1), (3, .int x3), (4, .int x4), (5, .int x5), (6, .int x6)]) C d_Wa_layProductsBelow_100 (k := 7) rfl (by rw [ey_10]; rfl) (by decide) rfl ?_
      refine z_goto (tgt := 59) C d_Wa_layProductsBelow_103 (by decide) ?_
      refine z_lv [1, 2, 3, 4, 5, 6, 7, 0] rfl ?_
      cases hf
      exact hK
theorem k_Wa_layProductsBelow_l59_run {p : Program} {l : Launch} {e : Env} {s : State} {m : MethodId} {args : Array Value} {below : List Frame} {meth : Method} {c : Code} {D : va_G} {cI cL : ClassId} {h_this h_this_phases h_this_wayOf h_this_wiresOf h_this_tallies h_arg1 h_arg1_numbers : Nat} {v_chosen v_arg1_monomials x1 x3 x4 x5 x6 x7 : Int32} {v_wayOf v_arg1_numbers v_phases o_phases : Nat → Int32} (C : zC p s m args meth c b_Wa_layProductsBelow 8 R_Wa D vwCl [(cI, .int), (cL, .long)] (zA [h_this, h_this_wayOf, h_arg1, h_arg1_numbers, h_this_phases] s.heap.size)) (hr : meth.sig.returnType = none) {o0 : Nat → Int32} (hf : zloop (fun q => f_Wa_layProductsBelow_l59 x1 x3 x4 x5 x6 v_wayOf v_arg1_numbers q.1 q.2) zF (x7, v_phases) = some o0) (hK : ZV p l e rm_Wa_layProductsBelow s m args below meth c 8 D (none) [(h_this, .inr (3, [.ref h_this_phases, .ref h_this_wayOf, .ref h_this_wiresOf, .ref h_this_tallies, .int v_chosen])), (h_this_wayOf, .inl (cI, 24, .inl v_wayOf)), (h_arg1, .inr (1, [.ref h_arg1_numbers, .int v_arg1_monomials])), (h_arg1_numbers, .inl (cI, 2325, .inl v_arg1_numbers)), (h_this_phases, .inl (cI, 4096, .inl o_phases))] [h_this, h_this_wayOf, h_arg1, h_arg1_numbers, h_this_phases] [(h_this, .inr (3, [.ref h_this_phases, .ref h_this_wayOf, .ref h_this_wiresOf, .ref h_this_tallies, .int v_chosen])), (h_this_wayOf, .inl (cI, 24, .inl v_wayOf)), (h_arg1, .inr (1, [.ref h_arg1_numbers, .int v_arg1_monomials])), (h_arg1_numbers, .inl (cI, 2325, .inl v_arg1_numbers)), (h_this_phases, .inl (cI, 4096, .inl o0))] 106 [(0, .ref h_this), (1, .int x1), (2, .ref h_arg1), (3, .int x3), (4, .int x4)] []) : ZV p l e rm_Wa_layProductsBelow s m args below meth c 8 D (none) [(h_this, .inr (3, [.ref h_this_phases, .ref h_this_wayOf, .ref h_this_wiresOf, .ref h_this_tallies, .int v_chosen])), (h_this_wayOf, .inl (cI, 24, .inl v_wayOf)), (h_arg1, .inr (1, [.ref h_arg1_numbers, .int v_arg1_monomials])), (h_arg1_numbers, .inl (cI, 2325, .inl v_arg1_numbers)), (h_this_phases, .inl (cI, 4096, .inl o_phases))] [h_this, h_this_wayOf, h_arg1, h_arg1_numbers, h_this_phases] [(h_this, .inr (3, [.ref h_this_phases, .ref h_this_wayOf, .ref h_this_wiresOf, .ref h_this_tallies, .int v_chosen])), (h_this_wayOf, .inl (cI, 24, .inl v_wayOf)), (h_arg1, .inr (1, [.ref h_arg1_numbers, .int v_arg1_monomials])), (h_arg1_numbers, .inl (cI, 2325, .inl v_arg1_numbers)), (h_this_phases, .inl (cI, 4096, .inl v_phases))] 59 [(0, .ref h_this), (1, .int x1), (2, .ref h_arg1), (3, .int x3), (4, .int x4), (5, .int x5), (6, .int x6), (7, .int x7)] [] :=
  zloop_run (P := fun q => ZV p l e rm_Wa_layProductsBelow s m args below meth c 8 D (none) [(h_this, .inr (3, [.ref h_this_phases, .ref h_this_wayOf, .ref h_this_wiresOf, .ref h_this_tallies, .int v_chosen])), (h_this_wayOf, .inl (cI, 24, .inl v_wayOf)), (h_arg1, .inr (1, [.ref h_arg1_numbers, .int v_arg1_monomials])), (h_arg1_numbers, .inl (cI, 2325, .inl v_arg1_numbers)), (h_this_phases, .inl (cI, 4096, .inl o_phases))] [h_this, h_this_wayOf, h_arg1, h_arg1_numbers, h_this_phases] [(h_this, .inr (3, [.ref h_this_phases, .ref h_this_wayOf, .ref h_this_wiresOf, .ref h_this_tallies, .int v_chosen])), (h_this_wayOf, .inl (cI, 24, .inl v_wayOf)), (h_arg1, .inr (1, [.ref h_arg1_numbers, .int v_arg1_monomials])), (h_arg1_numbers, .inl (cI, 2325, .inl v_arg1_numbers)), (h_this_phases, .inl (cI, 4096, .inl q.2))] 59 [(0, .ref h_this), (1, .int x1), (2, .ref h_arg1), (3, .int x3), (4, .int x4), (5, .int x5), (6, .int x6), (7, .int q.1)] []) (K := (fun q => ZV p l e rm_Wa_layProductsBelow s m args below meth c 8 D (none) [(h_this, .inr (3, [.ref h_this_phases, .ref h_this_wayOf, .ref h_this_wiresOf, .ref h_this_tallies, .int v_chosen])), (h_this_wayOf, .inl (cI, 24, .inl v_wayOf)), (h_arg1, .inr (1, [.ref h_arg1_numbers, .int v_arg1_monomials])), (h_arg1_numbers, .inl (cI, 2325, .inl v_arg1_numbers)), (h_this_phases, .inl (cI, 4096, .inl o_phases))] [h_this, h_this_wayOf, h_arg1, h_arg1_numbers, h_this_phases] [(h_this, .inr (3, [.ref h_this_phases, .ref h_this_wayOf, .ref h_this_wiresOf, .ref h_this_tallies, .int v_chosen])), (h_this_wayOf, .inl (cI, 24, .inl v_wayOf)), (h_arg1, .inr (1, [.ref h_arg1_numbers, .int v_arg1_monomials])), (h_arg1_numbers, .inl (cI, 2325, .inl v_arg1_numbers)), (h_this_phases, .inl (cI, 4096, .inl q))] 106 [(0, .ref h_this), (1, .int x1), (2, .ref h_arg1), (3, .int x3), (4, .int x4)] [])) (fun q z hz hK => k_Wa_layProductsBelow_l59 C hr hz hK) zF _ (o0) hf hK
def f_Wa_layProductsBelow_l3 (x1 : Int32) (x3 : Int32) (v_wayOf : Nat → Int32) (v_arg1_numbers : Nat → Int32) (x4 : Int32) (v_phases : Nat → Int32) : Option ((Int32 × (Nat → Int32)) ⊕ ((Nat → Int32))) :=
  if x1 ≤ x4 then (
    some (.inr (v_phases)))
  else (
    if (f_Ps_has x3 x4) = 0 then (
      zlet (x4 + 1) fun y_4 =>
      some (.inl (y_4, v_phases)))
    else (
      zlet (((1 : Int32) <<< (x1 &&& 31)) ||| ((1 : Int32) <<< (x4 &&& 31))) fun y_5 =>
      if x1 < 0 ∨ 24 ≤ x1.toNatClampNeg then none else
      if x4 < 0 ∨ 24 ≤ x4.toNatClampNeg then none else
      zlet ((v_wayOf x1.toNatClampNeg) ||| (v_wayOf x4.toNatClampNeg)) fun y_8 =>
      zb1 (f_Po_numberOf y_5 v_arg1_numbers) fun r_10 =>
      zb1 (f_Wa_addNumber y_8 r_10 v_phases) fun q_12 =>
      zb1 (zloop (fun q => f_Wa_layProductsBelow_l59 x1 x3 x4 y_5 y_8 v_wayOf v_arg1_numbers q.1 q.2) zF ((0 : Int32), q_12)) fun q_13 =>
      zlet (x4 + 1) fun y_15 =>
      some (.inl (y_15, q_13))))
set_option maxRecDepth 100000 in
set_option maxHeartbeats 4000000 in
theorem k_Wa_layProductsBelow_l3 {p : Program} {l : Launch} {e : Env} {s : State} {m : MethodId} {args : Array Value} {below : List Frame} {meth : Method} {c : Code} {D : va_G} {cI cL : ClassId} {h_this h_this_phases h_this_wayOf h_this_wiresOf h_this_tallies h_arg1 h_arg1_numbers : Nat} {v_chosen v_arg1_monomials x1 x3 x4 : Int32} {v_wayOf v_arg1_numbers v_phases o_phases : Nat → Int32} (C : zC p s m args meth c b_Wa_layProductsBelow 8 R_Wa D vwCl [(cI, .int), (cL, .long)] (zA [h_this, h_this_wayOf, h_arg1, h_arg1_numbers, h_this_phases] s.heap.size)) (hr : meth.sig.returnType = none) {z : (Int32 × (Nat → Int32)) ⊕ ((Nat → Int32))} (hf : f_Wa_layProductsBelow_l3 x1 x3 v_wayOf v_arg1_numbers x4 v_phases = some z) (hK : zcase (fun q => ZV p l e rm_Wa_layProductsBelow s m args below meth c 8 D (none) [(h_this, .inr (3, [.ref h_this_phases, .ref h_this_wayOf, .ref h_this_wiresOf, .ref h_this_tallies, .int v_chosen])), (h_this_wayOf, .inl (cI, 24, .inl v_wayOf)), (h_arg1, .inr (1, [.ref h_arg1_numbers, .int v_arg1_monomials])), (h_arg1_numbers, .inl (cI, 2325, .inl v_arg1_numbers)), (h_this_phases, .inl (cI, 4096, .inl o_phases))] [h_this, h_this_wayOf, h_arg1, h_arg1_numbers, h_this_phases] [(h_this, .inr (3, [.ref h_this_phases, .ref h_this_wayOf, .ref h_this_wiresOf, .ref h_this_tallies, .int v_chosen])), (h_this_wayOf, .inl (cI, 24, .inl v_wayOf)), (h_arg1, .inr (1, [.ref h_arg1_numbers, .int v_arg1_monomials])), (h_arg1_numbers, .inl (cI, 2325, .inl v_arg1_numbers)), (h_this_phases, .inl (cI, 4096, .inl q.2))] 3 [(0, .ref h_this), (1, .int x1), (2, .ref h_arg1), (3, .int x3), (4, .int q.1)] []) (fun q => ZV p l e rm_Wa_layProductsBelow s m args below meth c 8 D (none) [(h_this, .inr (3, [.ref h_this_phases, .ref h_this_wayOf, .ref h_this_wiresOf, .ref h_this_tallies, .int v_chosen])), (h_this_wayOf, .inl (cI, 24, .inl v_wayOf)), (h_arg1, .inr (1, [.ref h_arg1_numbers, .int v_arg1_monomials])), (h_arg1_numbers, .inl (cI, 2325, .inl v_arg1_numbers)), (h_this_phases, .inl (cI, 4096, .inl o_phases))] [h_this, h_this_wayOf, h_arg1, h_arg1_numbers, h_this_phases] [(h_this, .inr (3, [.ref h_this_phases, .ref h_this_wayOf, .ref h_this_wiresOf, .ref h_this_tallies, .int v_chosen])), (h_this_wayOf, .inl (cI, 24, .inl v_wayOf)), (h_arg1, .inr (1, [.ref h_arg1_numbers, .int v_arg1_monomials])), (h_arg1_numbers, .inl (cI, 2325, .inl v_arg1_numbers)), (h_this_phases, .inl (cI, 4096, .inl q))] 112 [] []) z) : ZV p l e rm_Wa_layProductsBelow s m args below meth c 8 D (none) [(h_this, .inr (3, [.ref h_this_phases, .ref h_this_wayOf, .ref h_this_wiresOf, .ref h_this_tallies, .int v_chosen])), (h_this_wayOf, .inl (cI, 24, .inl v_wayOf)), (h_arg1, .inr (1, [.ref h_arg1_numbers, .int v_arg1_monomials])), (h_arg1_numbers, .inl (cI, 2325, .inl v_arg1_numbers)), (h_this_phases, .inl (cI, 4096, .inl o_phases))] [h_this, h_this_wayOf, h_arg1, h_arg1_numbers, h_this_phases] [(h_this, .inr (3, [.ref h_this_phases, .ref h_this_wayOf, .ref h_this_wiresOf, .ref h_this_tallies, .int v_chosen])), (h_this_wayOf, .inl (cI, 24, .inl v_wayOf)), (h_arg1, .inr (1, [.ref h_arg1_numbers, .int v_arg1_monomials])), (h_arg1_numbers, .inl (cI, 2325, .inl v_arg1_numbers)), (h_this_phases, .inl (cI, 4096, .inl v_phases))] 3 [(0, .ref h_this), (1, .int x1), (2, .ref h_arg1), (3, .int x3), (4, .int x4)] [] := by
  unfold f_Wa_layProductsBelow_l3 at hf
  refine z_iload C d_Wa_layProductsBelow_3 4 rfl ?_
  refine z_iload_n C d_Wa_layProductsBelow_5 rfl 1 rfl ?_
  refine z_icmp_ge (tgt := 112) C d_Wa_layProductsBelow_6 (by decide) (fun c_1 => ?_) (fun c_1 => ?_)
  · have hf := zif_pos c_1 hf
    refine z_lv [] rfl ?_
    cases hf
    exact hK
  · have hf := zif_neg c_1 hf
    refine z_iload_n C d_Wa_layProductsBelow_9 rfl 3 rfl ?_
    refine z_iload C d_Wa_layProductsBelow_10 4 rfl ?_
    refine z_callSN (As := [.int x3, .int x4]) (rest := []) (ws' := [(h_this, .inr (3, [.ref h_this_phases, .ref h_this_wayOf, .ref h_this_wiresOf, .ref h_this_tallies, .int v_chosen])), (h_this_wayOf, .inl (cI, 24, .inl v_wayOf)), (h_arg1, .inr (1, [.ref h_arg1_numbers, .int v_arg1_monomials])), (h_arg1_numbers, .inl (cI, 2325, .inl v_arg1_numbers)), (h_this_phases, .inl (cI, 4096, .inl v_phases))]) C (c_Ps_has rfl) mi_Ps_has (znest C 8 rfl) (by decide) [] (by decide) rfl rfl rfl rfl rfl (by decide) ⟨Nat.zero_le _, Nat.zero_le _⟩ d_Wa_layProductsBelow_12 ?_
    refine z_if_eq (tgt := 106) C d_Wa_layProductsBelow_15 (by decide) (fun c_3 => ?_) (fun c_3 => ?_)
    · have hf := zif_pos c_3 hf
      obtain ⟨y_4, ey_4⟩ : ∃ y : Int32, y = x4 + 1 := ⟨_, rfl⟩
      have hf := zlet_at ey_4 hf
      refine z_iinc (v := y_4) (lv' := [(4, .int y_4), (0, .ref h_this), (1, .int x1), (2, .ref h_arg1), (3, .int x3)]) C d_Wa_layProductsBelow_106 (k := 4) rfl (by rw [ey_4]; rfl) (by decide) rfl ?_
      refine z_goto (tgt := 3) C d_Wa_layProductsBelow_109 (by decide) ?_
      refine z_lv [1, 2, 3, 4, 0] rfl ?_
      cases hf
      exact hK
    · have hf := zif_neg c_3 hf
      refine z_iconst (v := 1) C d_Wa_layProductsBelow_18 (by decide) ?_
      refine z_iload_n C d_Wa_layProductsBelow_19 rfl 1 rfl ?_
      refine z_ishl C d_Wa_layProductsBelow_20 ?_
      refine z_iconst (v := 1) C d_Wa_layProductsBelow_21 (by decide) ?_
      refine z_iload C d_Wa_layProductsBelow_22 4 rfl ?_
      refine z_ishl C d_Wa_layProductsBelow_24 ?_
      refine z_ior C d_Wa_layProductsBelow_25 ?_
      refine z_topi (fun y_5 ey_5 => ?_)
      have hf := zlet_at ey_5 hf
      refine z_istore (lv' := [(5, .int y_5), (0, .ref h_this), (1, .int x1), (2, .ref h_arg1), (3, .int x3), (4, .int x4)]) C d_Wa_layProductsBelow_26 (by decide) rfl ?_
      refine z_aload_n C d_Wa_layProductsBelow_28 rfl 1 rfl ?_
      refine z_get C iw_Wa 0 rfl rfl 1 (by decide) zw_110 rfl d_Wa_layProductsBelow_29 ?_
      refine z_iload_n C d_Wa_layProductsBelow_32 rfl 2 rfl ?_
      obtain ⟨g_6, hf⟩ := zguard hf
      refine z_iald C 1 0 rfl rfl g_6 d_Wa_layProductsBelow_33 ?_
      refine z_aload_n C d_Wa_layProductsBelow_34 rfl 1 rfl ?_
      refine z_get C iw_Wa 0 rfl rfl 1 (by decide) zw_110 rfl d_Wa_layProductsBelow_35 ?_
      refine z_iload C d_Wa_layProductsBelow_38 5 rfl ?_
      obtain ⟨g_7, hf⟩ := zguard hf
      refine z_iald C 1 0 rfl rfl g_7 d_Wa_layProductsBelow_40 ?_
      refine z_ior C d_Wa_layProductsBelow_41 ?_
      refine z_topi (fun y_8 ey_8 => ?_)
      have hf := zlet_at ey_8 hf
      refine z_istore (lv' := [(6, .int y_8), (5, .int y_5), (0, .ref h_this), (1, .int x1), (2, .ref h_arg1), (3, .int x3), (4, .int x4)]) C d_Wa_layProductsBelow_42 (by decide) rfl ?_
      refine z_aload_n C d_Wa_layProductsBelow_44 rfl 2 rfl ?_
      refine z_iload C d_Wa_layProductsBelow_45 0 rfl ?_
      refine z_aload_n C d_Wa_layProductsBelow_47 rfl 4 rfl ?_
      refine z_iload C d_Wa_layProductsBelow_48 1 rfl ?_
      obtain ⟨r_10, h_9, hf⟩ := zb1_elim hf
      refine z_callV (As := [.int y_5]) (rest := [.int y_8, .ref h_this]) (ws' := [(h_this, .inr (3, [.ref h_this_phases, .ref h_this_wayOf, .ref h_this_wiresOf, .ref h_this_tallies, .int v_chosen])), (h_this_wayOf, .inl (cI, 24, .inl v_wayOf)), (h_arg1, .inr (1, [.ref h_arg1_numbers, .int v_arg1_monomials])), (h_arg1_numbers, .inl (cI, 2325, .inl v_arg1_numbers)), (h_this_phases, .inl (cI, 4096, .inl v_phases))]) C (c_Po_numberOf h_9) mi_Po_numberOf zw_446 (by decide) 0 rfl rfl [2, 3] (by decide) rfl rfl rfl rfl rfl (by decide) ⟨Nat.zero_le _, Nat.zero_le _⟩ d_Wa_layProductsBelow_50 ?_
      obtain ⟨q_12, h_11, hf⟩ := zb1_elim hf
      refine z_callV (As := [.int y_8, .int r_10]) (rest := []) (ws' := [(h_this, .inr (3, [.ref h_this_phases, .ref h_this_wayOf, .ref h_this_wiresOf, .ref h_this_tallies, .int v_chosen])), (h_this_wayOf, .inl (cI, 24, .inl v_wayOf)), (h_arg1, .inr (1, [.ref h_arg1_numbers, .int v_arg1_monomials])), (h_arg1_numbers, .inl (cI, 2325, .inl v_arg1_numbers)), (h_this_phases, .inl (cI, 4096, .inl q_12))]) C (c_Wa_addNumber h_11) mi_Wa_addNumber zw_447 (by decide) 0 rfl rfl [0, 4] (by decide) rfl rfl rfl rfl rfl (by decide) ⟨Nat.zero_le _, Nat.zero_le _⟩ d_Wa_layProductsBelow_53 ?_
      refine z_iconst (v := 0) C d_Wa_layProductsBelow_56 (by decide) ?_
      refine z_istore (lv' := [(7, .int (0 : Int32)), (6, .int y_8), (5, .int y_5), (0, .ref h_this), (1, .int x1), (2, .ref h_arg1), (3, .int x3), (4, .int x4)]) C d_Wa_layProductsBelow_57 (by decide) rfl ?_
      refine z_lv [3, 4, 5, 6, 7, 2, 1, 0] rfl ?_
      obtain ⟨q_13, h_14, hf⟩ := zb1_elim hf
      refine k_Wa_layProductsBelow_l59_run C hr h_14 ?_
      obtain ⟨y_15, ey_15⟩ : ∃ y : Int32, y = x4 + 1 := ⟨_, rfl⟩
      have hf := zlet_at ey_15 hf
      refine z_iinc (v := y_15) (lv' := [(4, .int y_15), (0, .ref h_this), (1, .int x1), (2, .ref h_arg1), (3, .int x3)]) C d_Wa_layProductsBelow_106 (k := 4) rfl (by rw [ey_15]; rfl) (by decide) rfl ?_
      refine z_goto (tgt := 3) C d_Wa_layProductsBelow_109 (by decide) ?_
      refine z_lv [1, 2, 3, 4, 0] rfl ?_
      cases hf
      exact hK
theorem k_Wa_layProductsBelow_l3_run {p : Program} {l : Launch} {e : Env} {s : State} {m : MethodId} {args : Array Value} {below : List Frame} {meth : Method} {c : Code} {D : va_G} {cI cL : ClassId} {h_this h_this_phases h_this_wayOf h_this_wiresOf h_this_tallies h_arg1 h_arg1_numbers : Nat} {v_chosen v_arg1_monomials x1 x3 x4 : Int32} {v_wayOf v_arg1_numbers v_phases o_phases : Nat → Int32} (C : zC p s m args meth c b_Wa_layProductsBelow 8 R_Wa D vwCl [(cI, .int), (cL, .long)] (zA [h_this, h_this_wayOf, h_arg1, h_arg1_numbers, h_this_phases] s.heap.size)) (hr : meth.sig.returnType = none) {o0 : Nat → Int32} (hf : zloop (fun q => f_Wa_layProductsBelow_l3 x1 x3 v_wayOf v_arg1_numbers q.1 q.2) zF (x4, v_phases) = some o0) (hK : ZV p l e rm_Wa_layProductsBelow s m args below meth c 8 D (none) [(h_this, .inr (3, [.ref h_this_phases, .ref h_this_wayOf, .ref h_this_wiresOf, .ref h_this_tallies, .int v_chosen])), (h_this_wayOf, .inl (cI, 24, .inl v_wayOf)), (h_arg1, .inr (1, [.ref h_arg1_numbers, .int v_arg1_monomials])), (h_arg1_numbers, .inl (cI, 2325, .inl v_arg1_numbers)), (h_this_phases, .inl (cI, 4096, .inl o_phases))] [h_this, h_this_wayOf, h_arg1, h_arg1_numbers, h_this_phases] [(h_this, .inr (3, [.ref h_this_phases, .ref h_this_wayOf, .ref h_this_wiresOf, .ref h_this_tallies, .int v_chosen])), (h_this_wayOf, .inl (cI, 24, .inl v_wayOf)), (h_arg1, .inr (1, [.ref h_arg1_numbers, .int v_arg1_monomials])), (h_arg1_numbers, .inl (cI, 2325, .inl v_arg1_numbers)), (h_this_phases, .inl (cI, 4096, .inl o0))] 112 [] []) : ZV p l e rm_Wa_layProductsBelow s m args below meth c 8 D (none) [(h_this, .inr (3, [.ref h_this_phases, .ref h_this_wayOf, .ref h_this_wiresOf, .ref h_this_tallies, .int v_chosen])), (h_this_wayOf, .inl (cI, 24, .inl v_wayOf)), (h_arg1, .inr (1, [.ref h_arg1_numbers, .int v_arg1_monomials])), (h_arg1_numbers, .inl (cI, 2325, .inl v_arg1_numbers)), (h_this_phases, .inl (cI, 4096, .inl o_phases))] [h_this, h_this_wayOf, h_arg1, h_arg1_numbers, h_this_phases] [(h_this, .inr (3, [.ref h_this_phases, .ref h_this_wayOf, .ref h_this_wiresOf, .ref h_this_tallies, .int v_chosen])), (h_this_wayOf, .inl (cI, 24, .inl v_wayOf)), (h_arg1, .inr (1, [.ref h_arg1_numbers, .int v_arg1_monomials])), (h_arg1_numbers, .inl (cI, 2325, .inl v_arg1_numbers)), (h_this_phases, .inl (cI, 4096, .inl v_phases))] 3 [(0, .ref h_this), (1, .int x1), (2, .ref h_arg1), (3, .int x3), (4, .int x4)] [] :=
  zloop_run (P := fun q => ZV p l e rm_Wa_layProductsBelow s m args below meth c 8 D (none) [(h_this, .inr (3, [.ref h_this_phases, .ref h_this_wayOf, .ref h_this_wiresOf, .ref h_this_tallies, .int v_chosen])), (h_this_wayOf, .inl (cI, 24, .inl v_wayOf)), (h_arg1, .inr (1, [.ref h_arg1_numbers, .int v_arg1_monomials])), (h_arg1_numbers, .inl (cI, 2325, .inl v_arg1_numbers)), (h_this_phases, .inl (cI, 4096, .inl o_phases))] [h_this, h_this_wayOf, h_arg1, h_arg1_numbers, h_this_phases] [(h_this, .inr (3, [.ref h_this_phases, .ref h_this_wayOf, .ref h_this_wiresOf, .ref h_this_tallies, .int v_chosen])), (h_this_wayOf, .inl (cI, 24, .inl v_wayOf)), (h_arg1, .inr (1, [.ref h_arg1_numbers, .int v_arg1_monomials])), (h_arg1_numbers, .inl (cI, 2325, .inl v_arg1_numbers)), (h_this_phases, .inl (cI, 4096, .inl q.2))] 3 [(0, .ref h_this), (1, .int x1), (2, .ref h_arg1), (3, .int x3), (4, .int q.1)] []) (K := (fun q => ZV p l e rm_Wa_layProductsBelow s m args below meth c 8 D (none) [(h_this, .inr (3, [.ref h_this_phases, .ref h_this_wayOf, .ref h_this_wiresOf, .ref h_this_tallies, .int v_chosen])), (h_this_wayOf, .inl (cI, 24, .inl v_wayOf)), (h_arg1, .inr (1, [.ref h_arg1_numbers, .int v_arg1_monomials])), (h_arg1_numbers, .inl (cI, 2325, .inl v_arg1_numbers)), (h_this_phases, .inl (cI, 4096, .inl o_phases))] [h_this, h_this_wayOf, h_arg1, h_arg1_numbers, h_this_phases] [(h_this, .inr (3, [.ref h_this_phases, .ref h_this_wayOf, .ref h_this_wiresOf, .ref h_this_tallies, .int v_chosen])), (h_this_wayOf, .inl (cI, 24, .inl v_wayOf)), (h_arg1, .inr (1, [.ref h_arg1_numbers, .int v_arg1_monomials])), (h_arg1_numbers, .inl (cI, 2325, .inl v_arg1_numbers)), (h_this_phases, .inl (cI, 4096, .inl q))] 112 [] [])) (fun q z hz hK => k_Wa_layProductsBelow_l3 C hr hz hK) zF _ (o0) hf hK
/-- PathSums$Ways.layProductsBelow(ILPathSums$Polynomial;I)V -/
def f_Wa_layProductsBelow (x1 : Int32) (x3 : Int32) (v_wayOf : Nat → Int32) (v_arg1_numbers : Nat → Int32) (v_phases : Nat → Int32) : Option ((Nat → Int32)) :=
  zb1 (zloop (fun q => f_Wa_layProductsBelow_l3 x1 x3 v_wayOf v_arg1_numbers q.1 q.2) zF ((0 : Int32), v_phases)) fun q_1 =>
  some (q_1)
set_option maxRecDepth 100000 in
set_option maxHeartbeats 4000000 in
theorem k_Wa_layProductsBelow {p : Program} {l : Launch} {e : Env} {s : State} {m : MethodId} {args : Array Value} {below : List Frame} {meth : Method} {c : Code} {D : va_G} {cI cL : ClassId} {h_this h_this_phases h_this_wayOf h_this_wiresOf h_this_tallies h_arg1 h_arg1_numbers : Nat} {v_chosen v_arg1_monomials x1 x3 : Int32} {v_wayOf v_arg1_numbers v_phases o_phases : Nat → Int32} (C : zC p s m args meth c b_Wa_layProductsBelow 8 R_Wa D vwCl [(cI, .int), (cL, .long)] (zA [h_this, h_this_wayOf, h_arg1, h_arg1_numbers, h_this_phases] s.heap.size)) (hr : meth.sig.returnType = none) (hf : f_Wa_layProductsBelow x1 x3 v_wayOf v_arg1_numbers v_phases = some o_phases) : ZV p l e rm_Wa_layProductsBelow s m args below meth c 8 D (none) [(h_this, .inr (3, [.ref h_this_phases, .ref h_this_wayOf, .ref h_this_wiresOf, .ref h_this_tallies, .int v_chosen])), (h_this_wayOf, .inl (cI, 24, .inl v_wayOf)), (h_arg1, .inr (1, [.ref h_arg1_numbers, .int v_arg1_monomials])), (h_arg1_numbers, .inl (cI, 2325, .inl v_arg1_numbers)), (h_this_phases, .inl (cI, 4096, .inl o_phases))] [h_this, h_this_wayOf, h_arg1, h_arg1_numbers, h_this_phases] [(h_this, .inr (3, [.ref h_this_phases, .ref h_this_wayOf, .ref h_this_wiresOf, .ref h_this_tallies, .int v_chosen])), (h_this_wayOf, .inl (cI, 24, .inl v_wayOf)), (h_arg1, .inr (1, [.ref h_arg1_numbers, .int v_arg1_monomials])), (h_arg1_numbers, .inl (cI, 2325, .inl v_arg1_numbers)), (h_this_phases, .inl (cI, 4096, .inl v_phases))] 0 [(0, .ref h_this), (1, .int x1), (2, .ref h_arg1), (3, .int x3)] [] := by
  unfold f_Wa_layProductsBelow at hf
  refine z_iconst (v := 0) C d_Wa_layProductsBelow_0 (by decide) ?_
  refine z_istore (lv' := [(4, .int (0 : Int32)), (0, .ref h_this), (1, .int x1), (2, .ref h_arg1), (3, .int x3)]) C d_Wa_layProductsBelow_1 (by decide) rfl ?_
  refine z_lv [1, 2, 3, 4, 0] rfl ?_
  obtain ⟨q_1, h_2, hf⟩ := zb1_elim hf
  refine k_Wa_layProductsBelow_l3_run C hr h_2 ?_
  cases hf
  exact z_vret C hr d_Wa_layProductsBelow_112
theorem c_Wa_layProductsBelow {l : Launch} {D : va_G} {cI cL : ClassId} {h_this h_this_phases h_this_wayOf h_this_wiresOf h_this_tallies h_arg1 h_arg1_numbers : Nat} {v_chosen v_arg1_monomials x1 x3 : Int32} {v_wayOf v_arg1_numbers v_phases o_phases : Nat → Int32} (hf : f_Wa_layProductsBelow x1 x3 v_wayOf v_arg1_numbers v_phases = some o_phases) : zM l y_Wa_layProductsBelow (Cond.code y_Wa_layProductsBelow b_Wa_layProductsBelow 8 none :: zT) rm_Wa_layProductsBelow D vwCl [(cI, .int), (cL, .long)] [.ref h_this, .int x1, .ref h_arg1, .int x3] [(h_this, .inr (3, [.ref h_this_phases, .ref h_this_wayOf, .ref h_this_wiresOf, .ref h_this_tallies, .int v_chosen])), (h_this_wayOf, .inl (cI, 24, .inl v_wayOf)), (h_arg1, .inr (1, [.ref h_arg1_numbers, .int v_arg1_monomials])), (h_arg1_numbers, .inl (cI, 2325, .inl v_arg1_numbers)), (h_this_phases, .inl (cI, 4096, .inl v_phases))] [(h_this, .inr (3, [.ref h_this_phases, .ref h_this_wayOf, .ref h_this_wiresOf, .ref h_this_tallies, .int v_chosen])), (h_this_wayOf, .inl (cI, 24, .inl v_wayOf)), (h_arg1, .inr (1, [.ref h_arg1_numbers, .int v_arg1_monomials])), (h_arg1_numbers, .inl (cI, 2325, .inl v_arg1_numbers)), (h_this_phases, .inl (cI, 4096, .inl o_phases))] (none) :=
  zM.intro (by decide) rfl (fun _ h => List.mem_cons_of_mem _ h) (Nat.le_of_ble_eq_true rfl) (fun _ _ _ _ _ _ _ C hr _ => k_Wa_layProductsBelow C hr hf)
def rm_Wa_sumOverParts : Room := { frames := 0, cells := 0, slots := 0, locals := 0 }
def f_Wa_sumOverParts_l16 (x1 : Int32) (x2 : Int32) (v_chosen : Int32) (x3 : Int32) (v_phases : Nat → Int32) : Option ((Int32 × (Nat → Int32)) ⊕ ((Nat → Int32))) :=
  if ((1 : Int32) <<< (v_chosen &&& 31)) ≤ x3 then (
    some (.inr (v_phases)))
  else (
    if (4096 : Int32) ≤ x3 then (
      some (.inr (v_phases)))
    else (
      if (x3 &&& x2) = 0 then (
        zlet (x3 + 1) fun y_4 =>
        some (.inl (y_4, v_phases)))
      else (
        if x3 < 0 ∨ 4096 ≤ x3.toNatClampNeg then none else
        if (x3 ^^^ x2) < 0 ∨ 4096 ≤ (x3 ^^^ x2).toNatClampNeg then none else
        if x3 < 0 ∨ 4096 ≤ x3.toNatClampNeg then none else
        zlet (upd v_phases x3.toNatClampNeg ((v_phases x3.toNatClampNeg) + (v_phases (x3 ^^^ x2).toNatClampNeg))) fun u_8 =>
        zlet (x3 + 1) fun y_9 =>
        some (.inl (y_9, u_8)))))
set_option maxRecDepth 100000 in
set_option maxHeartbeats 4000000 in
theorem k_Wa_sumOverParts_l16 {p : Program} {l : Launch} {e : Env} {s : State} {m : MethodId} {args : Array Value} {below : List Frame} {meth : Method} {c : Code} {D : va_G} {cI cL : ClassId} {h_this h_this_phases h_this_wayOf h_this_wiresOf h_this_tallies : Nat} {v_chosen x1 x2 x3 : Int32} {v_phases o_phases : Nat → Int32} (C : zC p s m args meth c b_Wa_sumOverParts 4 R_Wa D vwCl [(cI, .int), (cL, .long)] (zA [h_this, h_this_phases] s.heap.size)) (hr : meth.sig.returnType = none) {z : (Int32 × (Nat → Int32)) ⊕ ((Nat → Int32))} (hf : f_Wa_sumOverParts_l16 x1 x2 v_chosen x3 v_phases = some z) (hK : zcase (fun q => ZV p l e rm_Wa_sumOverParts s m args below meth c 4 D (none) [(h_this, .inr (3, [.ref h_this_phases, .ref h_this_wayOf, .ref h_this_wiresOf, .ref h_this_tallies, .int v_chosen])), (h_this_phases, .inl (cI, 4096, .inl o_phases))] [h_this, h_this_phases] [(h_this, .inr (3, [.ref h_this_phases, .ref h_this_wayOf, .ref h_this_wiresOf, .ref h_this_tallies, .int v_chosen])), (h_this_phases, .inl (cI, 4096, .inl q.2))] 16 [(0, .ref h_this), (1, .int x1), (2, .int x2), (3, .int q.1)] []) (fun q => ZV p l e rm_Wa_sumOverParts s m args below meth c 4 D (none) [(h_this, .inr (3, [.ref h_this_phases, .ref h_this_wayOf, .ref h_this_wiresOf, .ref h_this_tallies, .int v_chosen])), (h_this_phases, .inl (cI, 4096, .inl o_phases))] [h_this, h_this_phases] [(h_this, .inr (3, [.ref h_this_phases, .ref h_this_wayOf, .ref h_this_wiresOf, .ref h_this_tallies, .int v_chosen])), (h_this_phases, .inl (cI, 4096, .inl q))] 62 [(0, .ref h_this), (1, .int x1)] []) z) : ZV p l e rm_Wa_sumOverParts s m args below meth c 4 D (none) [(h_this, .inr (3, [.ref h_this_phases, .ref h_this_wayOf, .ref h_this_wiresOf, .ref h_this_tallies, .int v_chosen])), (h_this_phases, .inl (cI, 4096, .inl o_phases))] [h_this, h_this_phases] [(h_this, .inr (3, [.ref h_this_phases, .ref h_this_wayOf, .ref h_this_wiresOf, .ref h_this_tallies, .int v_chosen])), (h_this_phases, .inl (cI, 4096, .inl v_phases))] 16 [(0, .ref h_this), (1, .int x1), (2, .int x2), (3, .int x3)] [] := by
  unfold f_Wa_sumOverParts_l16 at hf
  refine z_iload_n C d_Wa_sumOverParts_16 rfl 3 rfl ?_
  refine z_iconst (v := 1) C d_Wa_sumOverParts_17 (by decide) ?_
  refine z_aload_n C d_Wa_sumOverParts_18 rfl 0 rfl ?_
  refine z_get C iw_Wa 0 rfl rfl 4 (by decide) zw_114 rfl d_Wa_sumOverParts_19 ?_
  refine z_ishl C d_Wa_sumOverParts_22 ?_
  refine z_icmp_ge (tgt := 62) C d_Wa_sumOverParts_23 (by decide) (fun c_1 => ?_) (fun c_1 => ?_)
  · have hf := zif_pos c_1 hf
    refine z_lv [0, 1] rfl ?_
    cases hf
    exact hK
  · have hf := zif_neg c_1 hf
    refine z_iload_n C d_Wa_sumOverParts_26 rfl 3 rfl ?_
    refine z_sipush (v := 4096) C d_Wa_sumOverParts_27 (by decide) ?_
    refine z_icmp_ge (tgt := 62) C d_Wa_sumOverParts_30 (by decide) (fun c_2 => ?_) (fun c_2 => ?_)
    · have hf := zif_pos c_2 hf
      refine z_lv [0, 1] rfl ?_
      cases hf
      exact hK
    · have hf := zif_neg c_2 hf
      refine z_iload_n C d_Wa_sumOverParts_33 rfl 3 rfl ?_
      refine z_iload_n C d_Wa_sumOverParts_34 rfl 2 rfl ?_
      refine z_iand C d_Wa_sumOverParts_35 ?_
      refine z_if_eq (tgt := 56) C d_Wa_sumOverParts_36 (by decide) (fun c_3 => ?_) (fun c_3 => ?_)
      · have hf := zif_pos c_3 hf
        obtain ⟨y_4, ey_4⟩ : ∃ y : Int32, y = x3 + 1 := ⟨_, rfl⟩
        have hf := zlet_at ey_4 hf
        refine z_iinc (v := y_4) (lv' := [(3, .int y_4), (0, .ref h_this), (1, .int x1), (2, .int x2)]) C d_Wa_sumOverParts_56 (k := 3) rfl (by rw [ey_4]; rfl) (by decide) rfl ?_
        refine z_goto (tgt := 16) C d_Wa_sumOverParts_59 (by decide) ?_
        refine z_lv [1, 2, 3, 0] rfl ?_
        cases hf
        exact hK
      · have hf := zif_neg c_3 hf
        refine z_aload_n C d_Wa_sumOverParts_39 rfl 0 rfl ?_
        refine z_get C iw_Wa 0 rfl rfl 0 (by decide) zw_109 rfl d_Wa_sumOverParts_40 ?_
        refine z_iload_n C d_Wa_sumOverParts_43 rfl 3 rfl ?_
        refine z_dup2_11 C d_Wa_sumOverParts_44 rfl rfl ?_
        obtain ⟨g_5, hf⟩ := zguard hf
        refine z_iald C 1 0 rfl rfl g_5 d_Wa_sumOverParts_45 ?_
        refine z_aload_n C d_Wa_sumOverParts_46 rfl 0 rfl ?_
        refine z_get C iw_Wa 0 rfl rfl 0 (by decide) zw_109 rfl d_Wa_sumOverParts_47 ?_
        refine z_iload_n C d_Wa_sumOverParts_50 rfl 3 rfl ?_
        refine z_iload_n C d_Wa_sumOverParts_51 rfl 2 rfl ?_
        refine z_ixor C d_Wa_sumOverParts_52 ?_
        obtain ⟨g_6, hf⟩ := zguard hf
        refine z_iald C 1 0 rfl rfl g_6 d_Wa_sumOverParts_53 ?_
        refine z_iadd C d_Wa_sumOverParts_54 ?_
        obtain ⟨g_7, hf⟩ := zguard hf
        obtain ⟨u_8, eu_8⟩ : ∃ u : Nat → Int32, u = upd v_phases x3.toNatClampNeg ((v_phases x3.toNatClampNeg) + (v_phases (x3 ^^^ x2).toNatClampNeg)) := ⟨_, rfl⟩
        have hf := zlet_at eu_8 hf
        refine z_iast (ws' := [(h_this, .inr (3, [.ref h_this_phases, .ref h_this_wayOf, .ref h_this_wiresOf, .ref h_this_tallies, .int v_chosen])), (h_this_phases, .inl (cI, 4096, .inl u_8))]) C 1 0 rfl rfl g_7 d_Wa_sumOverParts_55 (by rw [eu_8]; rfl) ?_
        obtain ⟨y_9, ey_9⟩ : ∃ y : Int32, y = x3 + 1 := ⟨_, rfl⟩
        have hf := zlet_at ey_9 hf
        refine z_iinc (v := y_9) (lv' := [(3, .int y_9), (0, .ref h_this), (1, .int x1), (2, .int x2)]) C d_Wa_sumOverParts_56 (k := 3) rfl (by rw [ey_9]; rfl) (by decide) rfl ?_
        refine z_goto (tgt := 16) C d_Wa_sumOverParts_59 (by decide) ?_
        refine z_lv [1, 2, 3, 0] rfl ?_
        cases hf
        exact hK
theorem k_Wa_sumOverParts_l16_run {p : Program} {l : Launch} {e : Env} {s : State} {m : MethodId} {args : Array Value} {below : List Frame} {meth : Method} {c : Code} {D : va_G} {cI cL : ClassId} {h_this h_this_phases h_this_wayOf h_this_wiresOf h_this_tallies : Nat} {v_chosen x1 x2 x3 : Int32} {v_phases o_phases : Nat → Int32} (C : zC p s m args meth c b_Wa_sumOverParts 4 R_Wa D vwCl [(cI, .int), (cL, .long)] (zA [h_this, h_this_phases] s.heap.size)) (hr : meth.sig.returnType = none) {o0 : Nat → Int32} (hf : zloop (fun q => f_Wa_sumOverParts_l16 x1 x2 v_chosen q.1 q.2) zF (x3, v_phases) = some o0) (hK : ZV p l e rm_Wa_sumOverParts s m args below meth c 4 D (none) [(h_this, .inr (3, [.ref h_this_phases, .ref h_this_wayOf, .ref h_this_wiresOf, .ref h_this_tallies, .int v_chosen])), (h_this_phases, .inl (cI, 4096, .inl o_phases))] [h_this, h_this_phases] [(h_this, .inr (3, [.ref h_this_phases, .ref h_this_wayOf, .ref h_this_wiresOf, .ref h_this_tallies, .int v_chosen])), (h_this_phases, .inl (cI, 4096, .inl o0))] 62 [(0, .ref h_this), (1, .int x1)] []) : ZV p l e rm_Wa_sumOverParts s m args below meth c 4 D (none) [(h_this, .inr (3, [.ref h_this_phases, .ref h_this_wayOf, .ref h_this_wiresOf, .ref h_this_tallies, .int v_chosen])), (h_this_phases, .inl (cI, 4096, .inl o_phases))] [h_this, h_this_phases] [(h_this, .inr (3, [.ref h_this_phases, .ref h_this_wayOf, .ref h_this_wiresOf, .ref h_this_tallies, .int v_chosen])), (h_this_phases, .inl (cI, 4096, .inl v_phases))] 16 [(0, .ref h_this), (1, .int x1), (2, .int x2), (3, .int x3)] [] :=
  zloop_run (P := fun q => ZV p l e rm_Wa_sumOverParts s m args below meth c 4 D (none) [(h_this, .inr (3, [.ref h_this_phases, .ref h_this_wayOf, .ref h_this_wiresOf, .ref h_this_tallies, .int v_chosen])), (h_this_phases, .inl (cI, 4096, .inl o_phases))] [h_this, h_this_phases] [(h_this, .inr (3, [.ref h_this_phases, .ref h_this_wayOf, .ref h_this_wiresOf, .ref h_this_tallies, .int v_chosen])), (h_this_phases, .inl (cI, 4096, .inl q.2))] 16 [(0, .ref h_this), (1, .int x1), (2, .int x2), (3, .int q.1)] []) (K := (fun q => ZV p l e rm_Wa_sumOverParts s m args below meth c 4 D (none) [(h_this, .inr (3, [.ref h_this_phases, .ref h_this_wayOf, .ref h_this_wiresOf, .ref h_this_tallies, .int v_chosen])), (h_this_phases, .inl (cI, 4096, .inl o_phases))] [h_this, h_this_phases] [(h_this, .inr (3, [.ref h_this_phases, .ref h_this_wayOf, .ref h_this_wiresOf, .ref h_this_tallies, .int v_chosen])), (h_this_phases, .inl (cI, 4096, .inl q))] 62 [(0, .ref h_this), (1, .int x1)] [])) (fun q z hz hK => k_Wa_sumOverParts_l16 C hr hz hK) zF _ (o0) hf hK
def f_Wa_sumOverParts_l2 (v_chosen : Int32) (x1 : Int32) (v_phases : Nat → Int32) : Option ((Int32 × (Nat → Int32)) ⊕ ((Nat → Int32))) :=
  if v_chosen ≤ x1 then (
    some (.inr (v_phases)))
  else (
    zlet ((1 : Int32) <<< (x1 &&& 31)) fun y_2 =>
    zb1 (zloop (fun q => f_Wa_sumOverParts_l16 x1 y_2 v_chosen q.1 q.2) zF ((0 : Int32), v_phases)) fun q_3 =>
    zlet (x1 + 1) fun y_5 =>
    some (.inl (y_5, q_3)))
set_option maxRecDepth 100000 in
set_option maxHeartbeats 4000000 in
theorem k_Wa_sumOverParts_l2 {p : Program} {l : Launch} {e : Env} {s : State} {m : MethodId} {args : Array Value} {below : List Frame} {meth : Method} {c : Code} {D : va_G} {cI cL : ClassId} {h_this h_this_phases h_this_wayOf h_this_wiresOf h_this_tallies : Nat} {v_chosen x1 : Int32} {v_phases o_phases : Nat → Int32} (C : zC p s m args meth c b_Wa_sumOverParts 4 R_Wa D vwCl [(cI, .int), (cL, .long)] (zA [h_this, h_this_phases] s.heap.size)) (hr : meth.sig.returnType = none) {z : (Int32 × (Nat → Int32)) ⊕ ((Nat → Int32))} (hf : f_Wa_sumOverParts_l2 v_chosen x1 v_phases = some z) (hK : zcase (fun q => ZV p l e rm_Wa_sumOverParts s m args below meth c 4 D (none) [(h_this, .inr (3, [.ref h_this_phases, .ref h_this_wayOf, .ref h_this_wiresOf, .ref h_this_tallies, .int v_chosen])), (h_this_phases, .inl (cI, 4096, .inl o_phases))] [h_this, h_this_phases] [(h_this, .inr (3, [.ref h_this_phases, .ref h_this_wayOf, .ref h_this_wiresOf, .ref h_this_tallies, .int v_chosen])), (h_this_phases, .inl (cI, 4096, .inl q.2))] 2 [(0, .ref h_this), (1, .int q.1)] []) (fun q => ZV p l e rm_Wa_sumOverParts s m args below meth c 4 D (none) [(h_this, .inr (3, [.ref h_this_phases, .ref h_this_wayOf, .ref h_this_wiresOf, .ref h_this_tallies, .int v_chosen])), (h_this_phases, .inl (cI, 4096, .inl o_phases))] [h_this, h_this_phases] [(h_this, .inr (3, [.ref h_this_phases, .ref h_this_wayOf, .ref h_this_wiresOf, .ref h_this_tallies, .int v_chosen])), (h_this_phases, .inl (cI, 4096, .inl q))] 68 [] []) z) : ZV p l e rm_Wa_sumOverParts s m args below meth c 4 D (none) [(h_this, .inr (3, [.ref h_this_phases, .ref h_this_wayOf, .ref h_this_wiresOf, .ref h_this_tallies, .int v_chosen])), (h_this_phases, .inl (cI, 4096, .inl o_phases))] [h_this, h_this_phases] [(h_this, .inr (3, [.ref h_this_phases, .ref h_this_wayOf, .ref h_this_wiresOf, .ref h_this_tallies, .int v_chosen])), (h_this_phases, .inl (cI, 4096, .inl v_phases))] 2 [(0, .ref h_this), (1, .int x1)] [] := by
  unfold f_Wa_sumOverParts_l2 at hf
  refine z_iload_n C d_Wa_sumOverParts_2 rfl 1 rfl ?_
  refine z_aload_n C d_Wa_sumOverParts_3 rfl 0 rfl ?_
  refine z_get C iw_Wa 0 rfl rfl 4 (by decide) zw_114 rfl d_Wa_sumOverParts_4 ?_
  refine z_icmp_ge (tgt := 68) C d_Wa_sumOverParts_7 (by decide) (fun c_1 => ?_) (fun c_1 => ?_)
  · have hf := zif_pos c_1 hf
    refine z_lv [] rfl ?_
    cases hf
    exact hK
  · have hf := zif_neg c_1 hf
    refine z_iconst (v := 1) C d_Wa_sumOverParts_10 (by decide) ?_
    refine z_iload_n C d_Wa_sumOverParts_11 rfl 1 rfl ?_
    refine z_ishl C d_Wa_sumOverParts_12 ?_
    refine z_topi (fun y_2 ey_2 => ?_)
    have hf := zlet_at ey_2 hf
    refine z_istore_n (lv' := [(2, .int y_2), (0, .ref h_this), (1, .int x1)]) C d_Wa_sumOverParts_13 rfl (by decide) rfl ?_
    refine z_iconst (v := 0) C d_Wa_sumOverParts_14 (by decide) ?_
    refine z_istore_n (lv' := [(3, .int (0 : Int32)), (2, .int y_2), (0, .ref h_this), (1, .int x1)]) C d_Wa_sumOverParts_15 rfl (by decide) rfl ?_
    refine z_lv [2, 3, 1, 0] rfl ?_
    obtain ⟨q_3, h_4, hf⟩ := zb1_elim hf
    refine k_Wa_sumOverParts_l16_run C hr h_4 ?_
    obtain ⟨y_5, ey_5⟩ : ∃ y : Int32, y = x1 + 1 := ⟨_, rfl⟩
    have hf := zlet_at ey_5 hf
    refine z_iinc (v := y_5) (lv' := [(1, .int y_5), (0, .ref h_this)]) C d_Wa_sumOverParts_62 (k := 1) rfl (by rw [ey_5]; rfl) (by decide) rfl ?_
    refine z_goto (tgt := 2) C d_Wa_sumOverParts_65 (by decide) ?_
    refine z_lv [1, 0] rfl ?_
    cases hf
    exact hK
theorem k_Wa_sumOverParts_l2_run {p : Program} {l : Launch} {e : Env} {s : State} {m : MethodId} {args : Array Value} {below : List Frame} {meth : Method} {c : Code} {D : va_G} {cI cL : ClassId} {h_this h_this_phases h_this_wayOf h_this_wiresOf h_this_tallies : Nat} {v_chosen x1 : Int32} {v_phases o_phases : Nat → Int32} (C : zC p s m args meth c b_Wa_sumOverParts 4 R_Wa D vwCl [(cI, .int), (cL, .long)] (zA [h_this, h_this_phases] s.heap.size)) (hr : meth.sig.returnType = none) {o0 : Nat → Int32} (hf : zloop (fun q => f_Wa_sumOverParts_l2 v_chosen q.1 q.2) zF (x1, v_phases) = some o0) (hK : ZV p l e rm_Wa_sumOverParts s m args below meth c 4 D (none) [(h_this, .inr (3, [.ref h_this_phases, .ref h_this_wayOf, .ref h_this_wiresOf, .ref h_this_tallies, .int v_chosen])), (h_this_phases, .inl (cI, 4096, .inl o_phases))] [h_this, h_this_phases] [(h_this, .inr (3, [.ref h_this_phases, .ref h_this_wayOf, .ref h_this_wiresOf, .ref h_this_tallies, .int v_chosen])), (h_this_phases, .inl (cI, 4096, .inl o0))] 68 [] []) : ZV p l e rm_Wa_sumOverParts s m args below meth c 4 D (none) [(h_this, .inr (3, [.ref h_this_phases, .ref h_this_wayOf, .ref h_this_wiresOf, .ref h_this_tallies, .int v_chosen])), (h_this_phases, .inl (cI, 4096, .inl o_phases))] [h_this, h_this_phases] [(h_this, .inr (3, [.ref h_this_phases, .ref h_this_wayOf, .ref h_this_wiresOf, .ref h_this_tallies, .int v_chosen])), (h_this_phases, .inl (cI, 4096, .inl v_phases))] 2 [(0, .ref h_this), (1, .int x1)] [] :=
  zloop_run (P := fun q => ZV p l e rm_Wa_sumOverParts s m args below meth c 4 D (none) [(h_this, .inr (3, [.ref h_this_phases, .ref h_this_wayOf, .ref h_this_wiresOf, .ref h_this_tallies, .int v_chosen])), (h_this_phases, .inl (cI, 4096, .inl o_phases))] [h_this, h_this_phases] [(h_this, .inr (3, [.ref h_this_phases, .ref h_this_wayOf, .ref h_this_wiresOf, .ref h_this_tallies, .int v_chosen])), (h_this_phases, .inl (cI, 4096, .inl q.2))] 2 [(0, .ref h_this), (1, .int q.1)] []) (K := (fun q => ZV p l e rm_Wa_sumOverParts s m args below meth c 4 D (none) [(h_this, .inr (3, [.ref h_this_phases, .ref h_this_wayOf, .ref h_this_wiresOf, .ref h_this_tallies, .int v_chosen])), (h_this_phases, .inl (cI, 4096, .inl o_phases))] [h_this, h_this_phases] [(h_this, .inr (3, [.ref h_this_phases, .ref h_this_wayOf, .ref h_this_wiresOf, .ref h_this_tallies, .int v_chosen])), (h_this_phases, .inl (cI, 4096, .inl q))] 68 [] [])) (fun q z hz hK => k_Wa_sumOverParts_l2 C hr hz hK) zF _ (o0) hf hK
/-- PathSums$Ways.sumOverParts()V -/
def f_Wa_sumOverParts (v_chosen : Int32) (v_phases : Nat → Int32) : Option ((Nat → Int32)) :=
  zb1 (zloop (fun q => f_Wa_sumOverParts_l2 v_chosen q.1 q.2) zF ((0 : Int32), v_phases)) fun q_1 =>
  some (q_1)
set_option maxRecDepth 100000 in
set_option maxHeartbeats 4000000 in
theorem k_Wa_sumOverParts {p : Program} {l : Launch} {e : Env} {s : State} {m : MethodId} {args : Array Value} {below : List Frame} {meth : Method} {c : Code} {D : va_G} {cI cL : ClassId} {h_this h_this_phases h_this_wayOf h_this_wiresOf h_this_tallies : Nat} {v_chosen : Int32} {v_phases o_phases : Nat → Int32} (C : zC p s m args meth c b_Wa_sumOverParts 4 R_Wa D vwCl [(cI, .int), (cL, .long)] (zA [h_this, h_this_phases] s.heap.size)) (hr : meth.sig.returnType = none) (hf : f_Wa_sumOverParts v_chosen v_phases = some o_phases) : ZV p l e rm_Wa_sumOverParts s m args below meth c 4 D (none) [(h_this, .inr (3, [.ref h_this_phases, .ref h_this_wayOf, .ref h_this_wiresOf, .ref h_this_tallies, .int v_chosen])), (h_this_phases, .inl (cI, 4096, .inl o_phases))] [h_this, h_this_phases] [(h_this, .inr (3, [.ref h_this_phases, .ref h_this_wayOf, .ref h_this_wiresOf, .ref h_this_tallies, .int v_chosen])), (h_this_phases, .inl (cI, 4096, .inl v_phases))] 0 [(0, .ref h_this)] [] := by
  unfold f_Wa_sumOverParts at hf
  refine z_iconst (v := 0) C d_Wa_sumOverParts_0 (by decide) ?_
  refine z_istore_n (lv' := [(1, .int (0 : Int32)), (0, .ref h_this)]) C d_Wa_sumOverParts_1 rfl (by decide) rfl ?_
  refine z_lv [1, 0] rfl ?_
  obtain ⟨q_1, h_2, hf⟩ := zb1_elim hf
  refine k_Wa_sumOverParts_l2_run C hr h_2 ?_
  cases hf
  exact z_vret C hr d_Wa_sumOverParts_68
theorem c_Wa_sumOverParts {l : Launch} {D : va_G} {cI cL : ClassId} {h_this h_this_phases h_this_wayOf h_this_wiresOf h_this_tallies : Nat} {v_chosen : Int32} {v_phases o_phases : Nat → Int32} (hf : f_Wa_sumOverParts v_chosen v_phases = some o_phases) : zM l y_Wa_sumOverParts (Cond.code y_Wa_sumOverParts b_Wa_sumOverParts 4 none :: zT) rm_Wa_sumOverParts D vwCl [(cI, .int), (cL, .long)] [.ref h_this] [(h_this, .inr (3, [.ref h_this_phases, .ref h_this_wayOf, .ref h_this_wiresOf, .ref h_this_tallies, .int v_chosen])), (h_this_phases, .inl (cI, 4096, .inl v_phases))] [(h_this, .inr (3, [.ref h_this_phases, .ref h_this_wayOf, .ref h_this_wiresOf, .ref h_this_tallies, .int v_chosen])), (h_this_phases, .inl (cI, 4096, .inl o_phases))] (none) :=
  zM.intro (by decide) rfl (fun _ h => List.mem_cons_of_mem _ h) (Nat.le_of_ble_eq_true rfl) (fun _ _ _ _ _ _ _ C hr _ => k_Wa_sumOverParts C hr hf)
def rm_Wa_findPhases : Room := { frames := 4, cells := 0, slots := 0, locals := 96 }
def f_Wa_findPhases_l21 (x2 : Int32) (v_chosen : Int32) (v_arg0_numbers : Nat → Int32) (v_wayOf : Nat → Int32) (x3 : Int32) (v_phases : Nat → Int32) : Option ((Int32 × (Nat → Int32)) ⊕ ((Nat → Int32))) :=
  if (24 : Int32) ≤ x3 then (
    some (.inr (v_phases)))
  else (
    if (f_Ps_has x2 x3) = 0 then (
      zlet (x3 + 1) fun y_4 =>
      some (.inl (y_4, v_phases)))
    else (
      if x3 < 0 ∨ 24 ≤ x3.toNatClampNeg then none else
      zb1 (f_Po_numberOf ((1 : Int32) <<< (x3 &&& 31)) v_arg0_numbers) fun r_7 =>
      zb1 (f_Wa_addNumber (v_wayOf x3.toNatClampNeg) r_7 v_phases) fun q_9 =>
      zb1 (f_Wa_layProductsBelow x3 x2 v_wayOf v_arg0_numbers q_9) fun q_11 =>
      zlet (x3 + 1) fun y_12 =>
      some (.inl (y_12, q_11))))
set_option maxRecDepth 100000 in
set_option maxHeartbeats 4000000 in
theorem k_Wa_findPhases_l21 {p : Program} {l : Launch} {e : Env} {s : State} {m : MethodId} {args : Array Value} {below : List Frame} {meth : Method} {c : Code} {D : va_G} {cI cL : ClassId} {h_this h_this_phases h_this_wayOf h_this_wiresOf h_this_tallies h_arg0 h_arg0_numbers : Nat} {v_chosen v_arg0_monomials x2 x3 : Int32} {v_phases v_arg0_numbers v_wayOf o_phases : Nat → Int32} (C : zC p s m args meth c b_Wa_findPhases 4 R_Wa D vwCl [(cI, .int), (cL, .long)] (zA [h_this, h_this_phases, h_arg0, h_arg0_numbers, h_this_wayOf] s.heap.size)) (hr : meth.sig.returnType = none) {z : (Int32 × (Nat → Int32)) ⊕ ((Nat → Int32))} (hf : f_Wa_findPhases_l21 x2 v_chosen v_arg0_numbers v_wayOf x3 v_phases = some z) (hK : zcase (fun q => ZV p l e rm_Wa_findPhases s m args below meth c 4 D (none) [(h_this, .inr (3, [.ref h_this_phases, .ref h_this_wayOf, .ref h_this_wiresOf, .ref h_this_tallies, .int v_chosen])), (h_this_phases, .inl (cI, 4096, .inl o_phases)), (h_arg0, .inr (1, [.ref h_arg0_numbers, .int v_arg0_monomials])), (h_arg0_numbers, .inl (cI, 2325, .inl v_arg0_numbers)), (h_this_wayOf, .inl (cI, 24, .inl v_wayOf))] [h_this, h_this_phases, h_arg0, h_arg0_numbers, h_this_wayOf] [(h_this, .inr (3, [.ref h_this_phases, .ref h_this_wayOf, .ref h_this_wiresOf, .ref h_this_tallies, .int v_chosen])), (h_this_phases, .inl (cI, 4096, .inl q.2)), (h_arg0, .inr (1, [.ref h_arg0_numbers, .int v_arg0_monomials])), (h_arg0_numbers, .inl (cI, 2325, .inl v_arg0_numbers)), (h_this_wayOf, .inl (cI, 24, .inl v_wayOf))] 21 [(0, .ref h_this), (1, .ref h_arg0), (2, .int x2), (3, .int q.1)] []) (fun q => ZV p l e rm_Wa_findPhases s m args below meth c 4 D (none) [(h_this, .inr (3, [.ref h_this_phases, .ref h_this_wayOf, .ref h_this_wiresOf, .ref h_this_tallies, .int v_chosen])), (h_this_phases, .inl (cI, 4096, .inl o_phases)), (h_arg0, .inr (1, [.ref h_arg0_numbers, .int v_arg0_monomials])), (h_arg0_numbers, .inl (cI, 2325, .inl v_arg0_numbers)), (h_this_wayOf, .inl (cI, 24, .inl v_wayOf))] [h_this, h_this_phases, h_arg0, h_arg0_numbers, h_this_wayOf] [(h_this, .inr (3, [.ref h_this_phases, .ref h_this_wayOf, .ref h_this_wiresOf, .ref h_this_tallies, .int v_chosen])), (h_this_phases, .inl (cI, 4096, .inl q)), (h_arg0, .inr (1, [.ref h_arg0_numbers, .int v_arg0_monomials])), (h_arg0_numbers, .inl (cI, 2325, .inl v_arg0_numbers)), (h_this_wayOf, .inl (cI, 24, .inl v_wayOf))] 65 [(0, .ref h_this)] []) z) : ZV p l e rm_Wa_findPhases s m args below meth c 4 D (none) [(h_this, .inr (3, [.ref h_this_phases, .ref h_this_wayOf, .ref h_this_wiresOf, .ref h_this_tallies, .int v_chosen])), (h_this_phases, .inl (cI, 4096, .inl o_phases)), (h_arg0, .inr (1, [.ref h_arg0_numbers, .int v_arg0_monomials])), (h_arg0_numbers, .inl (cI, 2325, .inl v_arg0_numbers)), (h_this_wayOf, .inl (cI, 24, .inl v_wayOf))] [h_this, h_this_phases, h_arg0, h_arg0_numbers, h_this_wayOf] [(h_this, .inr (3, [.ref h_this_phases, .ref h_this_wayOf, .ref h_this_wiresOf, .ref h_this_tallies, .int v_chosen])), (h_this_phases, .inl (cI, 4096, .inl v_phases)), (h_arg0, .inr (1, [.ref h_arg0_numbers, .int v_arg0_monomials])), (h_arg0_numbers, .inl (cI, 2325, .inl v_arg0_numbers)), (h_this_wayOf, .inl (cI, 24, .inl v_wayOf))] 21 [(0, .ref h_this), (1, .ref h_arg0), (2, .int x2), (3, .int x3)] [] := by
  unfold f_Wa_findPhases_l21 at hf
  refine z_iload_n C d_Wa_findPhases_21 rfl 3 rfl ?_
  refine z_bipush (v := 24) C d_Wa_findPhases_22 (by decide) ?_
  refine z_icmp_ge (tgt := 65) C d_Wa_findPhases_24 (by decide) (fun c_1 => ?_) (fun c_1 => ?_)
  · have hf := zif_pos c_1 hf
    refine z_lv [0] rfl ?_
    cases hf
    exact hK
  · have hf := zif_neg c_1 hf
    refine z_iload_n C d_Wa_findPhases_27 rfl 2 rfl ?_
    refine z_iload_n C d_Wa_findPhases_28 rfl 3 rfl ?_
    refine z_callSN (As := [.int x2, .int x3]) (rest := []) (ws' := [(h_this, .inr (3, [.ref h_this_phases, .ref h_this_wayOf, .ref h_this_wiresOf, .ref h_this_tallies, .int v_chosen])), (h_this_phases, .inl (cI, 4096, .inl v_phases)), (h_arg0, .inr (1, [.ref h_arg0_numbers, .int v_arg0_monomials])), (h_arg0_numbers, .inl (cI, 2325, .inl v_arg0_numbers)), (h_this_wayOf, .inl (cI, 24, .inl v_wayOf))]) C (c_Ps_has rfl) mi_Ps_has (znest C 8 rfl) (by decide) [] (by decide) rfl rfl rfl rfl rfl (by decide) ⟨Nat.zero_le _, Nat.zero_le _⟩ d_Wa_findPhases_29 ?_
    refine z_if_eq (tgt := 59) C d_Wa_findPhases_32 (by decide) (fun c_3 => ?_) (fun c_3 => ?_)
    · have hf := zif_pos c_3 hf
      obtain ⟨y_4, ey_4⟩ : ∃ y : Int32, y = x3 + 1 := ⟨_, rfl⟩
      have hf := zlet_at ey_4 hf
      refine z_iinc (v := y_4) (lv' := [(3, .int y_4), (0, .ref h_this), (1, .ref h_arg0), (2, .int x2)]) C d_Wa_findPhases_59 (k := 3) rfl (by rw [ey_4]; rfl) (by decide) rfl ?_
      refine z_goto (tgt := 21) C d_Wa_findPhases_62 (by decide) ?_
      refine z_lv [1, 2, 3, 0] rfl ?_
      cases hf
      exact hK
    · have hf := zif_neg c_3 hf
      refine z_aload_n C d_Wa_findPhases_35 rfl 0 rfl ?_
      refine z_aload_n C d_Wa_findPhases_36 rfl 0 rfl ?_
      refine z_get C iw_Wa 0 rfl rfl 1 (by decide) zw_110 rfl d_Wa_findPhases_37 ?_
      refine z_iload_n C d_Wa_findPhases_40 rfl 3 rfl ?_
      obtain ⟨g_5, hf⟩ := zguard hf
      refine z_iald C 4 0 rfl rfl g_5 d_Wa_findPhases_41 ?_
      refine z_aload_n C d_Wa_findPhases_42 rfl 1 rfl ?_
      refine z_iconst (v := 1) C d_Wa_findPhases_43 (by decide) ?_
      refine z_iload_n C d_Wa_findPhases_44 rfl 3 rfl ?_
      refine z_ishl C d_Wa_findPhases_45 ?_
      obtain ⟨r_7, h_6, hf⟩ := zb1_elim hf
      refine z_callV (As := [.int ((1 : Int32) <<< (x3 &&& 31))]) (rest := [.int (v_wayOf x3.toNatClampNeg), .ref h_this]) (ws' := [(h_this, .inr (3, [.ref h_this_phases, .ref h_this_wayOf, .ref h_this_wiresOf, .ref h_this_tallies, .int v_chosen])), (h_this_phases, .inl (cI, 4096, .inl v_phases)), (h_arg0, .inr (1, [.ref h_arg0_numbers, .int v_arg0_monomials])), (h_arg0_numbers, .inl (cI, 2325, .inl v_arg0_numbers)), (h_this_wayOf, .inl (cI, 24, .inl v_wayOf))]) C (c_Po_numberOf h_6) mi_Po_numberOf zw_446 (by decide) 0 rfl rfl [2, 3] (by decide) rfl rfl rfl rfl rfl (by decide) ⟨Nat.zero_le _, Nat.zero_le _⟩ d_Wa_findPhases_46 ?_
      obtain ⟨q_9, h_8, hf⟩ := zb1_elim hf
      refine z_callV (As := [.int (v_wayOf x3.toNatClampNeg), .int r_7]) (rest := []) (ws' := [(h_this, .inr (3, [.ref h_this_phases, .ref h_this_wayOf, .ref h_this_wiresOf, .ref h_this_tallies, .int v_chosen])), (h_this_phases, .inl (cI, 4096, .inl q_9)), (h_arg0, .inr (1, [.ref h_arg0_numbers, .int v_arg0_monomials])), (h_arg0_numbers, .inl (cI, 2325, .inl v_arg0_numbers)), (h_this_wayOf, .inl (cI, 24, .inl v_wayOf))]) C (c_Wa_addNumber h_8) mi_Wa_addNumber zw_447 (by decide) 0 rfl rfl [0, 1] (by decide) rfl rfl rfl rfl rfl (by decide) ⟨Nat.zero_le _, Nat.zero_le _⟩ d_Wa_findPhases_49 ?_
      refine z_aload_n C d_Wa_findPhases_52 rfl 0 rfl ?_
      refine z_iload_n C d_Wa_findPhases_53 rfl 3 rfl ?_
      refine z_aload_n C d_Wa_findPhases_54 rfl 1 rfl ?_
      refine z_iload_n C d_Wa_findPhases_55 rfl 2 rfl ?_
      obtain ⟨q_11, h_10, hf⟩ := zb1_elim hf
      refine z_callV (As := [.int x3, .ref h_arg0, .int x2]) (rest := []) (ws' := [(h_this, .inr (3, [.ref h_this_phases, .ref h_this_wayOf, .ref h_this_wiresOf, .ref h_this_tallies, .int v_chosen])), (h_this_phases, .inl (cI, 4096, .inl q_11)), (h_arg0, .inr (1, [.ref h_arg0_numbers, .int v_arg0_monomials])), (h_arg0_numbers, .inl (cI, 2325, .inl v_arg0_numbers)), (h_this_wayOf, .inl (cI, 24, .inl v_wayOf))]) C (c_Wa_layProductsBelow h_10) mi_Wa_layProductsBelow zw_451 (by decide) 0 rfl rfl [0, 4, 2, 3, 1] (by decide) rfl rfl rfl rfl rfl (by decide) ⟨Nat.zero_le _, Nat.zero_le _⟩ d_Wa_findPhases_56 ?_
      obtain ⟨y_12, ey_12⟩ : ∃ y : Int32, y = x3 + 1 := ⟨_, rfl⟩
      have hf := zlet_at ey_12 hf
      refine z_iinc (v := y_12) (lv' := [(3, .int y_12), (0, .ref h_this), (1, .ref h_arg0), (2, .int x2)]) C d_Wa_findPhases_59 (k := 3) rfl (by rw [ey_12]; rfl) (by decide) rfl ?_
      refine z_goto (tgt := 21) C d_Wa_findPhases_62 (by decide) ?_
      refine z_lv [1, 2, 3, 0] rfl ?_
      cases hf
      exact hK
theorem k_Wa_findPhases_l21_run {p : Program} {l : Launch} {e : Env} {s : State} {m : MethodId} {args : Array Value} {below : List Frame} {meth : Method} {c : Code} {D : va_G} {cI cL : ClassId} {h_this h_this_phases h_this_wayOf h_this_wiresOf h_this_tallies h_arg0 h_arg0_numbers : Nat} {v_chosen v_arg0_monomials x2 x3 : Int32} {v_phases v_arg0_numbers v_wayOf o_phases : Nat → Int32} (C : zC p s m args meth c b_Wa_findPhases 4 R_Wa D vwCl [(cI, .int), (cL, .long)] (zA [h_this, h_this_phases, h_arg0, h_arg0_numbers, h_this_wayOf] s.heap.size)) (hr : meth.sig.returnType = none) {o0 : Nat → Int32} (hf : zloop (fun q => f_Wa_findPhases_l21 x2 v_chosen v_arg0_numbers v_wayOf q.1 q.2) zF (x3, v_phases) = some o0) (hK : ZV p l e rm_Wa_findPhases s m args below meth c 4 D (none) [(h_this, .inr (3, [.ref h_this_phases, .ref h_this_wayOf, .ref h_this_wiresOf, .ref h_this_tallies, .int v_chosen])), (h_this_phases, .inl (cI, 4096, .inl o_phases)), (h_arg0, .inr (1, [.ref h_arg0_numbers, .int v_arg0_monomials])), (h_arg0_numbers, .inl (cI, 2325, .inl v_arg0_numbers)), (h_this_wayOf, .inl (cI, 24, .inl v_wayOf))] [h_this, h_this_phases, h_arg0, h_arg0_numbers, h_this_wayOf] [(h_this, .inr (3, [.ref h_this_phases, .ref h_this_wayOf, .ref h_this_wiresOf, .ref h_this_tallies, .int v_chosen])), (h_this_phases, .inl (cI, 4096, .inl o0)), (h_arg0, .inr (1, [.ref h_arg0_numbers, .int v_arg0_monomials])), (h_arg0_numbers, .inl (cI, 2325, .inl v_arg0_numbers)), (h_this_wayOf, .inl (cI, 24, .inl v_wayOf))] 65 [(0, .ref h_this)] []) : ZV p l e rm_Wa_findPhases s m args below meth c 4 D (none) [(h_this, .inr (3, [.ref h_this_phases, .ref h_this_wayOf, .ref h_this_wiresOf, .ref h_this_tallies, .int v_chosen])), (h_this_phases, .inl (cI, 4096, .inl o_phases)), (h_arg0, .inr (1, [.ref h_arg0_numbers, .int v_arg0_monomials])), (h_arg0_numbers, .inl (cI, 2325, .inl v_arg0_numbers)), (h_this_wayOf, .inl (cI, 24, .inl v_wayOf))] [h_this, h_this_phases, h_arg0, h_arg0_numbers, h_this_wayOf] [(h_this, .inr (3, [.ref h_this_phases, .ref h_this_wayOf, .ref h_this_wiresOf, .ref h_this_tallies, .int v_chosen])), (h_this_phases, .inl (cI, 4096, .inl v_phases)), (h_arg0, .inr (1, [.ref h_arg0_numbers, .int v_arg0_monomials])), (h_arg0_numbers, .inl (cI, 2325, .inl v_arg0_numbers)), (h_this_wayOf, .inl (cI, 24, .inl v_wayOf))] 21 [(0, .ref h_this), (1, .ref h_arg0), (2, .int x2), (3, .int x3)] [] :=
  zloop_run (P := fun q => ZV p l e rm_Wa_findPhases s m args below meth c 4 D (none) [(h_this, .inr (3, [.ref h_this_phases, .ref h_this_wayOf, .ref h_this_wiresOf, .ref h_this_tallies, .int v_chosen])), (h_this_phases, .inl (cI, 4096, .inl o_phases)), (h_arg0, .inr (1, [.ref h_arg0_numbers, .int v_arg0_monomials])), (h_arg0_numbers, .inl (cI, 2325, .inl v_arg0_numbers)), (h_this_wayOf, .inl (cI, 24, .inl v_wayOf))] [h_this, h_this_phases, h_arg0, h_arg0_numbers, h_this_wayOf] [(h_this, .inr (3, [.ref h_this_phases, .ref h_this_wayOf, .ref h_this_wiresOf, .ref h_this_tallies, .int v_chosen])), (h_this_phases, .inl (cI, 4096, .inl q.2)), (h_arg0, .inr (1, [.ref h_arg0_numbers, .int v_arg0_monomials])), (h_arg0_numbers, .inl (cI, 2325, .inl v_arg0_numbers)), (h_this_wayOf, .inl (cI, 24, .inl v_wayOf))] 21 [(0, .ref h_this), (1, .ref h_arg0), (2, .int x2), (3, .int q.1)] []) (K := (fun q => ZV p l e rm_Wa_findPhases s m args below meth c 4 D (none) [(h_this, .inr (3, [.ref h_this_phases, .ref h_this_wayOf, .ref h_this_wiresOf, .ref h_this_tallies, .int v_chosen])), (h_this_phases, .inl (cI, 4096, .inl o_phases)), (h_arg0, .inr (1, [.ref h_arg0_numbers, .int v_arg0_monomials])), (h_arg0_numbers, .inl (cI, 2325, .inl v_arg0_numbers)), (h_this_wayOf, .inl (cI, 24, .inl v_wayOf))] [h_this, h_this_phases, h_arg0, h_arg0_numbers, h_this_wayOf] [(h_this, .inr (3, [.ref h_this_phases, .ref h_this_wayOf, .ref h_this_wiresOf, .ref h_this_tallies, .int v_chosen])), (h_this_phases, .inl (cI, 4096, .inl q)), (h_arg0, .inr (1, [.ref h_arg0_numbers, .int v_arg0_monomials])), (h_arg0_numbers, .inl (cI, 2325, .inl v_arg0_numbers)), (h_this_wayOf, .inl (cI, 24, .inl v_wayOf))] 65 [(0, .ref h_this)] [])) (fun q z hz hK => k_Wa_findPhases_l21 C hr hz hK) zF _ (o0) hf hK
/-- PathSums$Ways.findPhases(LPathSums$Polynomial;I)V -/
def f_Wa_findPhases (x2 : Int32) (v_chosen : Int32) (v_phases : Nat → Int32) (v_arg0_numbers : Nat → Int32) (v_wayOf : Nat → Int32) : Option ((Nat → Int32)) :=
  zb1 (f_Jarr_fill 4096 (0 : Int32) v_phases) fun q_2 =>
  zb1 (f_Po_numberOf (0 : Int32) v_arg0_numbers) fun r_4 =>
  zlet (upd q_2 (0 : Int32).toNatClampNeg r_4) fun u_5 =>
  zb1 (zloop (fun q => f_Wa_findPhases_l21 x2 v_chosen v_arg0_numbers v_wayOf q.1 q.2) zF ((0 : Int32), u_5)) fun q_6 =>
  zb1 (f_Wa_sumOverParts v_chosen q_6) fun q_9 =>
  some (q_9)
set_option maxRecDepth 100000 in
set_option maxHeartbeats 4000000 in
theorem k_Wa_findPhases {p : Program} {l : Launch} {e : Env} {s : State} {m : MethodId} {args : Array Value} {below : List Frame} {meth : Method} {c : Code} {D : va_G} {cI cL : ClassId} {h_this h_this_phases h_this_wayOf h_this_wiresOf h_this_tallies h_arg0 h_arg0_numbers : Nat} {v_chosen v_arg0_monomials x2 : Int32} {v_phases v_arg0_numbers v_wayOf o_phases : Nat → Int32} (C : zC p s m args meth c b_Wa_findPhases 4 R_Wa D vwCl [(cI, .int), (cL, .long)] (zA [h_this, h_this_phases, h_arg0, h_arg0_numbers, h_this_wayOf] s.heap.size)) (hr : meth.sig.returnType = none) (hf : f_Wa_findPhases x2 v_chosen v_phases v_arg0_numbers v_wayOf = some o_phases) : ZV p l e rm_Wa_findPhases s m args below meth c 4 D (none) [(h_this, .inr (3, [.ref h_this_phases, .ref h_this_wayOf, .ref h_this_wiresOf, .ref h_this_tallies, .int v_chosen])), (h_this_phases, .inl (cI, 4096, .inl o_phases)), (h_arg0, .inr (1, [.ref h_arg0_numbers, .int v_arg0_monomials])), (h_arg0_numbers, .inl (cI, 2325, .inl v_arg0_numbers)), (h_this_wayOf, .inl (cI, 24, .inl v_wayOf))] [h_this, h_this_phases, h_arg0, h_arg0_numbers, h_this_wayOf] [(h_this, .inr (3, [.ref h_this_phases, .ref h_this_wayOf, .ref h_this_wiresOf, .ref h_this_tallies, .int v_chosen])), (h_this_phases, .inl (cI, 4096, .inl v_phases)), (h_arg0, .inr (1, [.ref h_arg0_numbers, .int v_arg0_monomials])), (h_arg0_numbers, .inl (cI, 2325, .inl v_arg0_numbers)), (h_this_wayOf, .inl (cI, 24, .inl v_wayOf))] 0 [(0, .ref h_this), (1, .ref h_arg0), (2, .int x2)] [] := by
  unfold f_Wa_findPhases at hf
  refine z_aload_n C d_Wa_findPhases_0 rfl 0 rfl ?_
  refine z_get C iw_Wa 0 rfl rfl 0 (by decide) zw_109 rfl d_Wa_findPhases_1 ?_
  refine z_iconst (v := 0) C d_Wa_findPhases_4 (by decide) ?_
  obtain ⟨q_2, h_1, hf⟩ := zb1_elim hf
  refine z_callS (As := [.ref h_this_phases, .int (0 : Int32)]) (rest := []) (ws' := [(h_this, .inr (3, [.ref h_this_phases, .ref h_this_wayOf, .ref h_this_wiresOf, .ref h_this_tallies, .int v_chosen])), (h_this_phases, .inl (cI, 4096, .inl q_2)), (h_arg0, .inr (1, [.ref h_arg0_numbers, .int v_arg0_monomials])), (h_arg0_numbers, .inl (cI, 2325, .inl v_arg0_numbers)), (h_this_wayOf, .inl (cI, 24, .inl v_wayOf))]) C (c_Jarr_fill h_1) mi_Jarr_fill zw_445 (by decide) [1] (by decide) rfl rfl rfl rfl rfl (by decide) ⟨Nat.zero_le _, Nat.zero_le _⟩ d_Wa_findPhases_5 ?_
  refine z_aload_n C d_Wa_findPhases_8 rfl 0 rfl ?_
  refine z_get C iw_Wa 0 rfl rfl 0 (by decide) zw_109 rfl d_Wa_findPhases_9 ?_
  refine z_iconst (v := 0) C d_Wa_findPhases_12 (by decide) ?_
  refine z_aload_n C d_Wa_findPhases_13 rfl 1 rfl ?_
  refine z_iconst (v := 0) C d_Wa_findPhases_14 (by decide) ?_
  obtain ⟨r_4, h_3, hf⟩ := zb1_elim hf
  refine z_callV (As := [.int (0 : Int32)]) (rest := [.int (0 : Int32), .ref h_this_phases]) (ws' := [(h_this, .inr (3, [.ref h_this_phases, .ref h_this_wayOf, .ref h_this_wiresOf, .ref h_this_tallies, .int v_chosen])), (h_this_phases, .inl (cI, 4096, .inl q_2)), (h_arg0, .inr (1, [.ref h_arg0_numbers, .int v_arg0_monomials])), (h_arg0_numbers, .inl (cI, 2325, .inl v_arg0_numbers)), (h_this_wayOf, .inl (cI, 24, .inl v_wayOf))]) C (c_Po_numberOf h_3) mi_Po_numberOf zw_446 (by decide) 0 rfl rfl [2, 3] (by decide) rfl rfl rfl rfl rfl (by decide) ⟨Nat.zero_le _, Nat.zero_le _⟩ d_Wa_findPhases_15 ?_
  obtain ⟨u_5, eu_5⟩ : ∃ u : Nat → Int32, u = upd q_2 (0 : Int32).toNatClampNeg r_4 := ⟨_, rfl⟩
  have hf := zlet_at eu_5 hf
  refine z_iast (ws' := [(h_this, .inr (3, [.ref h_this_phases, .ref h_this_wayOf, .ref h_this_wiresOf, .ref h_this_tallies, .int v_chosen])), (h_this_phases, .inl (cI, 4096, .inl u_5)), (h_arg0, .inr (1, [.ref h_arg0_numbers, .int v_arg0_monomials])), (h_arg0_numbers, .inl (cI, 2325, .inl v_arg0_numbers)), (h_this_wayOf, .inl (cI, 24, .inl v_wayOf))]) C 1 0 rfl rfl (by decide) d_Wa_findPhases_18 (by rw [eu_5]; rfl) ?_
  refine z_iconst (v := 0) C d_Wa_findPhases_19 (by decide) ?_
  refine z_istore_n (lv' := [(3, .int (0 : Int32)), (0, .ref h_this), (1, .ref h_arg0), (2, .int x2)]) C d_Wa_findPhases_20 rfl (by decide) rfl ?_
  refine z_lv [1, 2, 3, 0] rfl ?_
  obtain ⟨q_6, h_7, hf⟩ := zb1_elim hf
  refine k_Wa_findPhases_l21_run C hr h_7 ?_
  refine z_aload_n C d_Wa_findPhases_65 rfl 0 rfl ?_
  obtain ⟨q_9, h_8, hf⟩ := zb1_elim hf
  refine z_callV (As := []) (rest := []) (ws' := [(h_this, .inr (3, [.ref h_this_phases, .ref h_this_wayOf, .ref h_this_wiresOf, .ref h_this_tallies, .int v_chosen])), (h_this_phases, .inl (cI, 4096, .inl q_9)), (h_arg0, .inr (1, [.ref h_arg0_numbers, .int v_arg0_monomials])), (h_arg0_numbers, .inl (cI, 2325, .inl v_arg0_numbers)), (h_this_wayOf, .inl (cI, 24, .inl v_wayOf))]) C (c_Wa_sumOverParts h_8) mi_Wa_sumOverParts zw_455 (by decide) 0 rfl rfl [0, 1] (by decide) rfl rfl rfl rfl rfl (by decide) ⟨Nat.zero_le _, Nat.zero_le _⟩ d_Wa_findPhases_66 ?_
  cases hf
  exact z_vret C hr d_Wa_findPhases_69
theorem c_Wa_findPhases {l : Launch} {D : va_G} {cI cL : ClassId} {h_this h_this_phases h_this_wayOf h_this_wiresOf h_this_tallies h_arg0 h_arg0_numbers : Nat} {v_chosen v_arg0_monomials x2 : Int32} {v_phases v_arg0_numbers v_wayOf o_phases : Nat → Int32} (hf : f_Wa_findPhases x2 v_chosen v_phases v_arg0_numbers v_wayOf = some o_phases) : zM l y_Wa_findPhases (Cond.code y_Wa_findPhases b_Wa_findPhases 4 none :: zT) rm_Wa_findPhases D vwCl [(cI, .int), (cL, .long)] [.ref h_this, .ref h_arg0, .int x2] [(h_this, .inr (3, [.ref h_this_phases, .ref h_this_wayOf, .ref h_this_wiresOf, .ref h_this_tallies, .int v_chosen])), (h_this_phases, .inl (cI, 4096, .inl v_phases)), (h_arg0, .inr (1, [.ref h_arg0_numbers, .int v_arg0_monomials])), (h_arg0_numbers, .inl (cI, 2325, .inl v_arg0_numbers)), (h_this_wayOf, .inl (cI, 24, .inl v_wayOf))] [(h_this, .inr (3, [.ref h_this_phases, .ref h_this_wayOf, .ref h_this_wiresOf, .ref h_this_tallies, .int v_chosen])), (h_this_phases, .inl (cI, 4096, .inl o_phases)), (h_arg0, .inr (1, [.ref h_arg0_numbers, .int v_arg0_monomials])), (h_arg0_numbers, .inl (cI, 2325, .inl v_arg0_numbers)), (h_this_wayOf, .inl (cI, 24, .inl v_wayOf))] (none) :=
  zM.intro (by decide) rfl (fun _ h => List.mem_cons_of_mem _ h) (Nat.le_of_ble_eq_true rfl) (fun _ _ _ _ _ _ _ C hr _ => k_Wa_findPhases C hr hf)
def rm_Wa_tally : Room := { frames := 1, cells := 0, slots := 0, locals := 23 }
def f_Wa_tally_l16 (x2 : Int32) (v_chosen : Int32) (v_wiresOf : Nat → Int32) (v_phases : Nat → Int32) (x3 : Int32) (x4 : Int32) (x5 : Int32) (v_tallies : Nat → Int32) : Option ((Int32 × Int32 × Int32 × (Nat → Int32)) ⊕ ((Nat → Int32))) :=
  if ((1 : Int32) <<< (v_chosen &&& 31)) < x5 then (
    some (.inr (v_tallies)))
  else (
    if x4 = x2 then (
      if x3 < 0 then (
        zlet (f_Jint_bitCount ((x5 &&& (-x5)) - (1 : Int32))) fun y_5 =>
        if v_chosen ≤ y_5 then (
          zlet (x5 + 1) fun y_7 =>
          some (.inl (x3, x4, y_7, v_tallies)))
        else (
          if (12 : Int32) ≤ y_5 then (
            zlet (x5 + 1) fun y_9 =>
            some (.inl (x3, x4, y_9, v_tallies)))
          else (
            zlet (x3 ^^^ ((1 : Int32) <<< (y_5 &&& 31))) fun y_10 =>
            if y_5 < 0 ∨ 12 ≤ y_5.toNatClampNeg then none else
            zlet (x4 ^^^ (v_wiresOf y_5.toNatClampNeg)) fun y_12 =>
            zlet (x5 + 1) fun y_13 =>
            some (.inl (y_10, y_12, y_13, v_tallies)))))
      else (
        if (4096 : Int32) ≤ x3 then (
          zlet (f_Jint_bitCount ((x5 &&& (-x5)) - (1 : Int32))) fun y_16 =>
          if v_chosen ≤ y_16 then (
            zlet (x5 + 1) fun y_18 =>
            some (.inl (x3, x4, y_18, v_tallies)))
          else (
            if (12 : Int32) ≤ y_16 then (
              zlet (x5 + 1) fun y_20 =>
              some (.inl (x3, x4, y_20, v_tallies)))
            else (
              zlet (x3 ^^^ ((1 : Int32) <<< (y_16 &&& 31))) fun y_21 =>
              if y_16 < 0 ∨ 12 ≤ y_16.toNatClampNeg then none else
              zlet (x4 ^^^ (v_wiresOf y_16.toNatClampNeg)) fun y_23 =>
              zlet (x5 + 1) fun y_24 =>
              some (.inl (y_21, y_23, y_24, v_tallies)))))
        else (
          if x3 < 0 ∨ 4096 ≤ x3.toNatClampNeg then none else
          if ((v_phases x3.toNatClampNeg) &&& (7 : Int32)) < 0 ∨ 8 ≤ ((v_phases x3.toNatClampNeg) &&& (7 : Int32)).toNatClampNeg then none else
          if ((v_phases x3.toNatClampNeg) &&& (7 : Int32)) < 0 ∨ 8 ≤ ((v_phases x3.toNatClampNeg) &&& (7 : Int32)).toNatClampNeg then none else
          zlet (upd v_tallies ((v_phases x3.toNatClampNeg) &&& (7 : Int32)).toNatClampNeg ((v_tallies ((v_phases x3.toNatClampNeg) &&& (7 : Int32)).toNatClampNeg) + (1 : Int32))) fun u_28 =>
          zlet (f_Jint_bitCount ((x5 &&& (-x5)) - (1 : Int32))) fun y_30 =>
          if v_chosen ≤ y_30 then (
            zlet (x5 + 1) fun y_32 =>
            some (.inl (x3, x4, y_32, u_28)))
          else (
            if (12 : Int32) ≤ y_30 then (
              zlet (x5 + 1) fun y_34 =>
              some (.inl (x3, x4, y_34, u_28)))
            else (
              zlet (x3 ^^^ ((1 : Int32) <<< (y_30 &&& 31))) fun y_35 =>
              if y_30 < 0 ∨ 12 ≤ y_30.toNatClampNeg then none else
              zlet (x4 ^^^ (v_wiresOf y_30.toNatClampNeg)) fun y_37 =>
              zlet (x5 + 1) fun y_38 =>
              some (.inl (y_35, y_37, y_38, u_28)))))))
    else (
      zlet (f_Jint_bitCount ((x5 &&& (-x5)) - (1 : Int32))) fun y_40 =>
      if v_chosen ≤ y_40 then (
        zlet (x5 + 1) fun y_42 =>
        some (.inl (x3, x4, y_42, v_tallies)))
      else (
        if (12 : Int32) ≤ y_40 then (
          zlet (x5 + 1) fun y_44 =>
          some (.inl (x3, x4, y_44, v_tallies)))
        else (
          zlet (x3 ^^^ ((1 : Int32) <<< (y_40 &&& 31))) fun y_45 =>
          if y_40 < 0 ∨ 12 ≤ y_40.toNatClampNeg then none else
          zlet (x4 ^^^ (v_wiresOf y_40.toNatClampNeg)) fun y_47 =>
          zlet (x5 + 1) fun y_48 =>
          some (.inl (y_45, y_47, y_48, v_tallies))))))
set_option maxRecDepth 100000 in
set_option maxHeartbeats 4000000 in
theorem k_Wa_tally_l16 {p : Program} {l : Launch} {e : Env} {s : State} {m : MethodId} {args : Array Value} {below : List Frame} {meth : Method} {c : Code} {D : va_G} {cI cL : ClassId} {h_this h_this_phases h_this_wayOf h_this_wiresOf h_this_tallies : Nat} {v_chosen x2 x3 x4 x5 : Int32} {v_tallies v_wiresOf v_phases o_tallies : Nat → Int32} (C : zC p s m args meth c b_Wa_tally 7 R_Wa D vwCl [(cI, .int), (cL, .long)] (zA [h_this, h_this_tallies, h_this_wiresOf, h_this_phases] s.heap.size)) (hr : meth.sig.returnType = none) {z : (Int32 × Int32 × Int32 × (Nat → Int32)) ⊕ ((Nat → Int32))} (hf : f_Wa_tally_l16 x2 v_chosen v_wiresOf v_phases x3 x4 x5 v_tallies = some z) (hK : zcase (fun q => ZV p l e rm_Wa_tally s m args below meth c 7 D (none) [(h_this, .inr (3, [.ref h_this_phases, .ref h_this_wayOf, .ref h_this_wiresOf, .ref h_this_tallies, .int v_chosen])), (h_this_tallies, .inl (cI, 8, .inl o_tallies)), (h_this_wiresOf, .inl (cI, 12, .inl v_wiresOf)), (h_this_phases, .inl (cI, 4096, .inl v_phases))] [h_this, h_this_tallies, h_this_wiresOf, h_this_phases] [(h_this, .inr (3, [.ref h_this_phases, .ref h_this_wayOf, .ref h_this_wiresOf, .ref h_this_tallies, .int v_chosen])), (h_this_tallies, .inl (cI, 8, .inl q.2.2.2)), (h_this_wiresOf, .inl (cI, 12, .inl v_wiresOf)), (h_this_phases, .inl (cI, 4096, .inl v_phases))] 16 [(0, .ref h_this), (2, .int x2), (3, .int q.1), (4, .int q.2.1), (5, .int q.2.2.1)] []) (fun q => ZV p l e rm_Wa_tally s m args below meth c 7 D (none) [(h_this, .inr (3, [.ref h_this_phases, .ref h_this_wayOf, .ref h_this_wiresOf, .ref h_this_tallies, .int v_chosen])), (h_this_tallies, .inl (cI, 8, .inl o_tallies)), (h_this_wiresOf, .inl (cI, 12, .inl v_wiresOf)), (h_this_phases, .inl (cI, 4096, .inl v_phases))] [h_this, h_this_tallies, h_this_wiresOf, h_this_phases] [(h_this, .inr (3, [.ref h_this_phases, .ref h_this_wayOf, .ref h_this_wiresOf, .ref h_this_tallies, .int v_chosen])), (h_this_tallies, .inl (cI, 8, .inl q)), (h_this_wiresOf, .inl (cI, 12, .inl v_wiresOf)), (h_this_phases, .inl (cI, 4096, .inl v_phases))] 116 [] []) z) : ZV p l e rm_Wa_tally s m args below meth c 7 D (none) [(h_this, .inr (3, [.ref h_this_phases, .ref h_this_wayOf, .ref h_this_wiresOf, .ref h_this_tallies, .int v_chosen])), (h_this_tallies, .inl (cI, 8, .inl o_tallies)), (h_this_wiresOf, .inl (cI, 12, .inl v_wiresOf)), (h_this_phases, .inl (cI, 4096, .inl v_phases))] [h_this, h_this_tallies, h_this_wiresOf, h_this_phases] [(h_this, .inr (3, [.ref h_this_phases, .ref h_this_wayOf, .ref h_this_wiresOf, .ref h_this_tallies, .int v_chosen])), (h_this_tallies, .inl (cI, 8, .inl v_tallies)), (h_this_wiresOf, .inl (cI, 12, .inl v_wiresOf)), (h_this_phases, .inl (cI, 4096, .inl v_phases))] 16 [(0, .ref h_this), (2, .int x2), (3, .int x3), (4, .int x4), (5, .int x5)] [] := by
  unfold f_Wa_tally_l16 at hf
  refine z_iload C d_Wa_tally_16 4 rfl ?_
  refine z_iconst (v := 1) C d_Wa_tally_18 (by decide) ?_
  refine z_aload_n C d_Wa_tally_19 rfl 0 rfl ?_
  refine z_get C iw_Wa 0 rfl rfl 4 (by decide) zw_114 rfl d_Wa_tally_20 ?_
  refine z_ishl C d_Wa_tally_23 ?_
  refine z_icmp_gt (tgt := 116) C d_Wa_tally_24 (by decide) (fun c_1 => ?_) (fun c_1 => ?_)
  · have hf := zif_pos c_1 hf
    refine z_lv [] rfl ?_
    cases hf
    exact hK
  · have hf := zif_neg c_1 hf
    refine z_iload C d_Wa_tally_27 3 rfl ?_
    refine z_iload_n C d_Wa_tally_29 rfl 1 rfl ?_
    refine z_icmp_ne (tgt := 62) C d_Wa_tally_30 (by decide) (fun c_2 => ?_) (fun c_2 => ?_)
    · have hf := zif_neg c_2 hf
      refine z_iload C d_Wa_tally_62 4 rfl ?_
      refine z_iload C d_Wa_tally_64 4 rfl ?_
      refine z_ineg C d_Wa_tally_66 ?_
      refine z_iand C d_Wa_tally_67 ?_
      refine z_iconst (v := 1) C d_Wa_tally_68 (by decide) ?_
      refine z_isub C d_Wa_tally_69 ?_
      refine z_callS (As := [.int ((x5 &&& (-x5)) - (1 : Int32))]) (rest := []) (ws' := [(h_this, .inr (3, [.ref h_this_phases, .ref h_this_wayOf, .ref h_this_wiresOf, .ref h_this_tallies, .int v_chosen])), (h_this_tallies, .inl (cI, 8, .inl v_tallies)), (h_this_wiresOf, .inl (cI, 12, .inl v_wiresOf)), (h_this_phases, .inl (cI, 4096, .inl v_phases))]) C (c_Jint_bitCount rfl) mi_Jint_bitCount zw_463 (by decide) [] (by decide) rfl rfl rfl rfl rfl (by decide) ⟨Nat.zero_le _, Nat.zero_le _⟩ d_Wa_tally_70 ?_
      refine z_topi (fun y_40 ey_40 => ?_)
      have hf := zlet_at ey_40 hf
      refine z_istore (lv' := [(6, .int y_40), (0, .ref h_this), (2, .int x2), (3, .int x3), (4, .int x4), (5, .int x5)]) C d_Wa_tally_73 (by decide) rfl ?_
      refine z_iload C d_Wa_tally_75 0 rfl ?_
      refine z_aload_n C d_Wa_tally_77 rfl 1 rfl ?_
      refine z_get C iw_Wa 0 rfl rfl 4 (by decide) zw_114 rfl d_Wa_tally_78 ?_
      refine z_icmp_ge (tgt := 110) C d_Wa_tally_81 (by decide) (fun c_41 => ?_) (fun c_41 => ?_)
      · have hf := zif_pos c_41 hf
        obtain ⟨y_42, ey_42⟩ : ∃ y : Int32, y = x5 + 1 := ⟨_, rfl⟩
        have hf := zlet_at ey_42 hf
        refine z_iinc (v := y_42) (lv' := [(5, .int y_42), (6, .int y_40), (0, .ref h_this), (2, .int x2), (3, .int x3), (4, .int x4)]) C d_Wa_tally_110 (k := 5) rfl (by rw [ey_42]; rfl) (by decide) rfl ?_
        refine z_goto (tgt := 16) C d_Wa_tally_113 (by decide) ?_
        refine z_lv [2, 3, 4, 5, 0] rfl ?_
        cases hf
        exact hK
      · have hf := zif_neg c_41 hf
        refine z_iload C d_Wa_tally_84 0 rfl ?_
        refine z_bipush (v := 12) C d_Wa_tally_86 (by decide) ?_
        refine z_icmp_ge (tgt := 110) C d_Wa_tally_88 (by decide) (fun c_43 => ?_) (fun c_43 => ?_)
        · have hf := zif_pos c_43 hf
          obtain ⟨y_44, ey_44⟩ : ∃ y : Int32, y = x5 + 1 := ⟨_, rfl⟩
          have hf := zlet_at ey_44 hf
          refine z_iinc (v := y_44) (lv' := [(5, .int y_44), (6, .int y_40), (0, .ref h_this), (2, .int x2), (3, .int x3), (4, .int x4)]) C d_Wa_tally_110 (k := 5) rfl (by rw [ey_44]; rfl) (by decide) rfl ?_
          refine z_goto (tgt := 16) C d_Wa_tally_113 (by decide) ?_
          refine z_lv [2, 3, 4, 5, 0] rfl ?_
          cases hf
          exact hK
        · have hf := zif_neg c_43 hf
          refine z_iload_n C d_Wa_tally_91 rfl 3 rfl ?_
          refine z_iconst (v := 1) C d_Wa_tally_92 (by decide) ?_
          refine z_iload C d_Wa_tally_93 0 rfl ?_
          refine z_ishl C d_Wa_tally_95 ?_
          refine z_ixor C d_Wa_tally_96 ?_
          refine z_topi (fun y_45 ey_45 => ?_)
          have hf := zlet_at ey_45 hf
          refine z_istore_n (lv' := [(3, .int y_45), (6, .int y_40), (0, .ref h_this), (2, .int x2), (4, .int x4), (5, .int x5)]) C d_Wa_tally_97 rfl (by decide) rfl ?_
          refine z_iload C d_Wa_tally_98 4 rfl ?_
          refine z_aload_n C d_Wa_tally_100 rfl 2 rfl ?_
          refine z_get C iw_Wa 0 rfl rfl 2 (by decide) zw_111 rfl d_Wa_tally_101 ?_
          refine z_iload C d_Wa_tally_104 1 rfl ?_
          obtain ⟨g_46, hf⟩ := zguard hf
          refine z_iald C 2 0 rfl rfl g_46 d_Wa_tally_106 ?_
          refine z_ixor C d_Wa_tally_107 ?_
          refine z_topi (fun y_47 ey_47 => ?_)
          have hf := zlet_at ey_47 hf
          refine z_istore (lv' := [(4, .int y_47), (3, .int y_45), (6, .int y_40), (0, .ref h_this), (2, .int x2), (5, .int x5)]) C d_Wa_tally_108 (by decide) rfl ?_
          obtain ⟨y_48, ey_48⟩ : ∃ y : Int32, y = x5 + 1 := ⟨_, rfl⟩
          have hf := zlet_at ey_48 hf
          refine z_iinc (v := y_48) (lv' := [(5, .int y_48), (4, .int y_47), (3, .int y_45), (6, .int y_40), (0, .ref h_this), (2, .int x2)]) C d_Wa_tally_110 (k := 5) rfl (by rw [ey_48]; rfl) (by decide) rfl ?_
          refine z_goto (tgt := 16) C d_Wa_tally_113 (by decide) ?_
          refine z_lv [4, 5, 2, 1, 0] rfl ?_
          cases hf
          exact hK
    · have hf := zif_pos c_2 hf
      refine z_iload_n C d_Wa_tally_33 rfl 2 rfl ?_
      refine z_if_lt (tgt := 62) C d_Wa_tally_34 (by decide) (fun c_3 => ?_) (fun c_3 => ?_)
      · have hf := zif_pos c_3 hf
        refine z_iload C d_Wa_tally_62 4 rfl ?_
        refine z_iload C d_Wa_tally_64 4 rfl ?_
        refine z_ineg C d_Wa_tally_66 ?_
        refine z_iand C d_Wa_tally_67 ?_
        refine z_iconst (v := 1) C d_Wa_tally_68 (by decide) ?_
        refine z_isub C d_Wa_tally_69 ?_
        refine z_callS (As := [.int ((x5 &&& (-x5)) - (1 : Int32))]) (rest := []) (ws' := [(h_this, .inr (3, [.ref h_this_phases, .ref h_this_wayOf, .ref h_this_wiresOf, .ref h_this_tallies, .int v_chosen])), (h_this_tallies, .inl (cI, 8, .inl v_tallies)), (h_this_wiresOf, .inl (cI, 12, .inl v_wiresOf)), (h_this_phases, .inl (cI, 4096, .inl v_phases))]) C (c_Jint_bitCount rfl) mi_Jint_bitCount zw_463 (by decide) [] (by decide) rfl rfl rfl rfl rfl (by decide) ⟨Nat.zero_le _, Nat.zero_le _⟩ d_Wa_tally_70 ?_
        refine z_topi (fun y_5 ey_5 => ?_)
        have hf := zlet_at ey_5 hf
        refine z_istore (lv' := [(6, .int y_5), (0, .ref h_this), (2, .int x2), (3, .int x3), (4, .int x4), (5, .int x5)]) C d_Wa_tally_73 (by decide) rfl ?_
        refine z_iload C d_Wa_tally_75 0 rfl ?_
        refine z_aload_n C d_Wa_tally_77 rfl 1 rfl ?_
        refine z_get C iw_Wa 0 rfl rfl 4 (by decide) zw_114 rfl d_Wa_tally_78 ?_
        refine z_icmp_ge (tgt := 110) C d_Wa_tally_81 (by decide) (fun c_6 => ?_) (fun c_6 => ?_)
        · have hf := zif_pos c_6 hf
          obtain ⟨y_7, ey_7⟩ : ∃ y : Int32, y = x5 + 1 := ⟨_, rfl⟩
          have hf := zlet_at ey_7 hf
          refine z_iinc (v := y_7) (lv' := [(5, .int y_7), (6, .int y_5), (0, .ref h_this), (2, .int x2), (3, .int x3), (4, .int x4)]) C d_Wa_tally_110 (k := 5) rfl (by rw [ey_7]; rfl) (by decide) rfl ?_
          refine z_goto (tgt := 16) C d_Wa_tally_113 (by decide) ?_
          refine z_lv [2, 3, 4, 5, 0] rfl ?_
          cases hf
          exact hK
        · have hf := zif_neg c_6 hf
          refine z_iload C d_Wa_tally_84 0 rfl ?_
          refine z_bipush (v := 12) C d_Wa_tally_86 (by decide) ?_
          refine z_icmp_ge (tgt := 110) C d_Wa_tally_88 (by decide) (fun c_8 => ?_) (fun c_8 => ?_)
          · have hf := zif_pos c_8 hf
            obtain ⟨y_9, ey_9⟩ : ∃ y : Int32, y = x5 + 1 := ⟨_, rfl⟩
            have hf := zlet_at ey_9 hf
            refine z_iinc (v := y_9) (lv' := [(5, .int y_9), (6, .int y_5), (0, .ref h_this), (2, .int x2), (3, .int x3), (4, .int x4)]) C d_Wa_tally_110 (k := 5) rfl (by rw [ey_9]; rfl) (by decide) rfl ?_
            refine z_goto (tgt := 16) C d_Wa_tally_113 (by decide) ?_
            refine z_lv [2, 3, 4, 5, 0] rfl ?_
            cases hf
            exact hK
          · have hf := zif_neg c_8 hf
            refine z_iload_n C d_Wa_tally_91 rfl 3 rfl ?_
            refine z_iconst (v := 1) C d_Wa_tally_92 (by decide) ?_
            refine z_iload C d_Wa_tally_93 0 rfl ?_
            refine z_ishl C d_Wa_tally_95 ?_
            refine z_ixor C d_Wa_tally_96 ?_
            refine z_topi (fun y_10 ey_10 => ?_)
            have hf := zlet_at ey_10 hf
            refine z_istore_n (lv' := [(3, .int y_10), (6, .int y_5), (0, .ref h_this), (2, .int x2), (4, .int x4), (5, .int x5)]) C d_Wa_tally_97 rfl (by decide) rfl ?_
            refine z_iload C d_Wa_tally_98 4 rfl ?_
            refine z_aload_n C d_Wa_tally_100 rfl 2 rfl ?_
            refine z_get C iw_Wa 0 rfl rfl 2 (by decide) zw_111 rfl d_Wa_tally_101 ?_
            refine z_iload C d_Wa_tally_104 1 rfl ?_
            obtain ⟨g_11, hf⟩ := zguard hf
            refine z_iald C 2 0 rfl rfl g_11 d_Wa_tally_106 ?_
            refine z_ixor C d_Wa_tally_107 ?_
            refine z_topi (fun y_12 ey_12 => ?_)
            have hf := zlet_at ey_12 hf
            refine z_istore (lv' := [(4, .int y_12), (3, .int y_10), (6, .int y_5), (0, .ref h_this), (2, .int x2), (5, .int x5)]) C d_Wa_tally_108 (by decide) rfl ?_
            obtain ⟨y_13, ey_13⟩ : ∃ y : Int32, y = x5 + 1 := ⟨_, rfl⟩
            have hf := zlet_at ey_13 hf
            refine z_iinc (v := y_13) (lv' := [(5, .int y_13), (4, .int y_12), (3, .int y_10), (6, .int y_5), (0, .ref h_this), (2, .int x2)]) C d_Wa_tally_110 (k := 5) rfl (by rw [ey_13]; rfl) (by decide) rfl ?_
            refine z_goto (tgt := 16) C d_Wa_tally_113 (by decide) ?_
            refine z_lv [4, 5, 2, 1, 0] rfl ?_
            cases hf
            exact hK
      · have hf := zif_neg c_3 hf
        refine z_iload_n C d_Wa_tally_37 rfl 2 rfl ?_
        refine z_sipush (v := 4096) C d_Wa_tally_38 (by decide) ?_
        refine z_icmp_ge (tgt := 62) C d_Wa_tally_41 (by decide) (fun c_14 => ?_) (fun c_14 => ?_)
        · have hf := zif_pos c_14 hf
          refine z_iload C d_Wa_tally_62 4 rfl ?_
          refine z_iload C d_Wa_tally_64 4 rfl ?_
          refine z_ineg C d_Wa_tally_66 ?_
          refine z_iand C d_Wa_tally_67 ?_
          refine z_iconst (v := 1) C d_Wa_tally_68 (by decide) ?_
          refine z_isub C d_Wa_tally_69 ?_
          refine z_callS (As := [.int ((x5 &&& (-x5)) - (1 : Int32))]) (rest := []) (ws' := [(h_this, .inr (3, [.ref h_this_phases, .ref h_this_wayOf, .ref h_this_wiresOf, .ref h_this_tallies, .int v_chosen])), (h_this_tallies, .inl (cI, 8, .inl v_tallies)), (h_this_wiresOf, .inl (cI, 12, .inl v_wiresOf)), (h_this_phases, .inl (cI, 4096, .inl v_phases))]) C (c_Jint_bitCount rfl) mi_Jint_bitCount zw_463 (by decide) [] (by decide) rfl rfl rfl rfl rfl (by decide) ⟨Nat.zero_le _, Nat.zero_le _⟩ d_Wa_tally_70 ?_
          refine z_topi (fun y_16 ey_16 => ?_)
          have hf := zlet_at ey_16 hf
          refine z_istore (lv' := [(6, .int y_16), (0, .ref h_this), (2, .int x2), (3, .int x3), (4, .int x4), (5, .int x5)]) C d_Wa_tally_73 (by decide) rfl ?_
          refine z_iload C d_Wa_tally_75 0 rfl ?_
          refine z_aload_n C d_Wa_tally_77 rfl 1 rfl ?_
          refine z_get C iw_Wa 0 rfl rfl 4 (by decide) zw_114 rfl d_Wa_tally_78 ?_
          refine z_icmp_ge (tgt := 110) C d_Wa_tally_81 (by decide) (fun c_17 => ?_) (fun c_17 => ?_)
          · have hf := zif_pos c_17 hf
            obtain ⟨y_18, ey_18⟩ : ∃ y : Int32, y = x5 + 1 := ⟨_, rfl⟩
            have hf := zlet_at ey_18 hf
            refine z_iinc (v := y_18) (lv' := [(5, .int y_18), (6, .int y_16), (0, .ref h_this), (2, .int x2), (3, .int x3), (4, .int x4)]) C d_Wa_tally_110 (k := 5) rfl (by rw [ey_18]; rfl) (by decide) rfl ?_
            refine z_goto (tgt := 16) C d_Wa_tally_113 (by decide) ?_
            refine z_lv [2, 3, 4, 5, 0] rfl ?_
            cases hf
            exact hK
          · have hf := zif_neg c_17 hf
            refine z_iload C d_Wa_tally_84 0 rfl ?_
            refine z_bipush (v := 12) C d_Wa_tally_86 (by decide) ?_
            refine z_icmp_ge (tgt := 110) C d_Wa_tally_88 (by decide) (fun c_19 => ?_) (fun c_19 => ?_)
            · have hf := zif_pos c_19 hf
              obtain ⟨y_20, ey_20⟩ : ∃ y : Int32, y = x5 + 1 := ⟨_, rfl⟩
              have hf := zlet_at ey_20 hf
              refine z_iinc (v := y_20) (lv' := [(5, .int y_20), (6, .int y_16), (0, .ref h_this), (2, .int x2), (3, .int x3), (4, .int x4)]) C d_Wa_tally_110 (k := 5) rfl (by rw [ey_20]; rfl) (by decide) rfl ?_
              refine z_goto (tgt := 16) C d_Wa_tally_113 (by decide) ?_
              refine z_lv [2, 3, 4, 5, 0] rfl ?_
              cases hf
              exact hK
            · have hf := zif_neg c_19 hf
              refine z_iload_n C d_Wa_tally_91 rfl 3 rfl ?_
              refine z_iconst (v := 1) C d_Wa_tally_92 (by decide) ?_
              refine z_iload C d_Wa_tally_93 0 rfl ?_
              refine z_ishl C d_Wa_tally_95 ?_
              refine z_ixor C d_Wa_tally_96 ?_
              refine z_topi (fun y_21 ey_21 => ?_)
              have hf := zlet_at ey_21 hf
              refine z_istore_n (lv' := [(3, .int y_21), (6, .int y_16), (0, .ref h_this), (2, .int x2), (4, .int x4), (5, .int x5)]) C d_Wa_tally_97 rfl (by decide) rfl ?_
              refine z_iload C d_Wa_tally_98 4 rfl ?_
              refine z_aload_n C d_Wa_tally_100 rfl 2 rfl ?_
              refine z_get C iw_Wa 0 rfl rfl 2 (by decide) zw_111 rfl d_Wa_tally_101 ?_
              refine z_iload C d_Wa_tally_104 1 rfl ?_
              obtain ⟨g_22, hf⟩ := zguard hf
              refine z_iald C 2 0 rfl rfl g_22 d_Wa_tally_106 ?_
              refine z_ixor C d_Wa_tally_107 ?_
              refine z_topi (fun y_23 ey_23 => ?_)
              have hf := zlet_at ey_23 hf
              refine z_istore (lv' := [(4, .int y_23), (3, .int y_21), (6, .int y_16), (0, .ref h_this), (2, .int x2), (5, .int x5)]) C d_Wa_tally_108 (by decide) rfl ?_
              obtain ⟨y_24, ey_24⟩ : ∃ y : Int32, y = x5 + 1 := ⟨_, rfl⟩
              have hf := zlet_at ey_24 hf
              refine z_iinc (v := y_24) (lv' := [(5, .int y_24), (4, .int y_23), (3, .int y_21), (6, .int y_16), (0, .ref h_this), (2, .int x2)]) C d_Wa_tally_110 (k := 5) rfl (by rw [ey_24]; rfl) (by decide) rfl ?_
              refine z_goto (tgt := 16) C d_Wa_tally_113 (by decide) ?_
              refine z_lv [4, 5, 2, 1, 0] rfl ?_
              cases hf
              exact hK
        · have hf := zif_neg c_14 hf
          refine z_aload_n C d_Wa_tally_44 rfl 0 rfl ?_
          refine z_get C iw_Wa 0 rfl rfl 3 (by decide) zw_112 rfl d_Wa_tally_45 ?_
          refine z_aload_n C d_Wa_tally_48 rfl 0 rfl ?_
          refine z_get C iw_Wa 0 rfl rfl 0 (by decide) zw_109 rfl d_Wa_tally_49 ?_
          refine z_iload_n C d_Wa_tally_52 rfl 2 rfl ?_
          obtain ⟨g_25, hf⟩ := zguard hf
          refine z_iald C 3 0 rfl rfl g_25 d_Wa_tally_53 ?_
          refine z_bipush (v := 7) C d_Wa_tally_54 (by decide) ?_
          refine z_iand C d_Wa_tally_56 ?_
          refine z_dup2_11 C d_Wa_tally_57 rfl rfl ?_
          obtain ⟨g_26, hf⟩ := zguard hf
          refine z_iald C 1 0 rfl rfl g_26 d_Wa_tally_58 ?_
          refine z_iconst (v := 1) C d_Wa_tally_59 (by decide) ?_
          refine z_iadd C d_Wa_tally_60 ?_
          obtain ⟨g_27, hf⟩ := zguard hf
          obtain ⟨u_28, eu_28⟩ : ∃ u : Nat → Int32, u = upd v_tallies ((v_phases x3.toNatClampNeg) &&& (7 : Int32)).toNatClampNeg ((v_tallies ((v_phases x3.toNatClampNeg) &&& (7 : Int32)).toNatClampNeg) + (1 : Int32)) := ⟨_, rfl⟩
          have hf := zlet_at eu_28 hf
          refine z_iast (ws' := [(h_this, .inr (3, [.ref h_this_phases, .ref h_this_wayOf, .ref h_this_wiresOf, .ref h_this_tallies, .int v_chosen])), (h_this_tallies, .inl (cI, 8, .inl u_28)), (h_this_wiresOf, .inl (cI, 12, .inl v_wiresOf)), (h_this_phases, .inl (cI, 4096, .inl v_phases))]) C 1 0 rfl rfl g_27 d_Wa_tally_61 (by rw [eu_28]; rfl) ?_
          refine z_iload C d_Wa_tally_62 4 rfl ?_
          refine z_iload C d_Wa_tally_64 4 rfl ?_
          refine z_ineg C d_Wa_tally_66 ?_
          refine z_iand C d_Wa_tally_67 ?_
          refine z_iconst (v := 1) C d_Wa_tally_68 (by decide) ?_
          refine z_isub C d_Wa_tally_69 ?_
          refine z_callS (As := [.int ((x5 &&& (-x5)) - (1 : Int32))]) (rest := []) (ws' := [(h_this, .inr (3, [.ref h_this_phases, .ref h_this_wayOf, .ref h_this_wiresOf, .ref h_this_tallies, .int v_chosen])), (h_this_tallies, .inl (cI, 8, .inl u_28)), (h_this_wiresOf, .inl (cI, 12, .inl v_wiresOf)), (h_this_phases, .inl (cI, 4096, .inl v_phases))]) C (c_Jint_bitCount rfl) mi_Jint_bitCount zw_463 (by decide) [] (by decide) rfl rfl rfl rfl rfl (by decide) ⟨Nat.zero_le _, Nat.zero_le _⟩ d_Wa_tally_70 ?_
          refine z_topi (fun y_30 ey_30 => ?_)
          have hf := zlet_at ey_30 hf
          refine z_istore (lv' := [(6, .int y_30), (0, .ref h_this), (2, .int x2), (3, .int x3), (4, .int x4), (5, .int x5)]) C d_Wa_tally_73 (by decide) rfl ?_
          refine z_iload C d_Wa_tally_75 0 rfl ?_
          refine z_aload_n C d_Wa_tally_77 rfl 1 rfl ?_
          refine z_get C iw_Wa 0 rfl rfl 4 (by decide) zw_114 rfl d_Wa_tally_78 ?_
          refine z_icmp_ge (tgt := 110) C d_Wa_tally_81 (by decide) (fun c_31 => ?_) (fun c_31 => ?_)
          · have hf := zif_pos c_31 hf
            obtain ⟨y_32, ey_32⟩ : ∃ y : Int32, y = x5 + 1 := ⟨_, rfl⟩
            have hf := zlet_at ey_32 hf
            refine z_iinc (v := y_32) (lv' := [(5, .int y_32), (6, .int y_30), (0, .ref h_this), (2, .int x2), (3, .int x3), (4, .int x4)]) C d_Wa_tally_110 (k := 5) rfl (by rw [ey_32]; rfl) (by decide) rfl ?_
            refine z_goto (tgt := 16) C d_Wa_tally_113 (by decide) ?_
            refine z_lv [2, 3, 4, 5, 0] rfl ?_
            cases hf
            exact hK
          · have hf := zif_neg c_31 hf
            refine z_iload C d_Wa_tally_84 0 rfl ?_
            refine z_bipush (v := 12) C d_Wa_tally_86 (by decide) ?_
            refine z_icmp_ge (tgt := 110) C d_Wa_tally_88 (by decide) (fun c_33 => ?_) (fun c_33 => ?_)
            · have hf := zif_pos c_33 hf
              obtain ⟨y_34, ey_34⟩ : ∃ y : Int32, y = x5 + 1 := ⟨_, rfl⟩
              have hf := zlet_at ey_34 hf
              refine z_iinc (v := y_34) (lv' := [(5, .int y_34), (6, .int y_30), (0, .ref h_this), (2, .int x2), (3, .int x3), (4, .int x4)]) C d_Wa_tally_110 (k := 5) rfl (by rw [ey_34]; rfl) (by decide) rfl ?_
              refine z_goto (tgt := 16) C d_Wa_tally_113 (by decide) ?_
              refine z_lv [2, 3, 4, 5, 0] rfl ?_
              cases hf
              exact hK
            · have hf := zif_neg c_33 hf
              refine z_iload_n C d_Wa_tally_91 rfl 3 rfl ?_
              refine z_iconst (v := 1) C d_Wa_tally_92 (by decide) ?_
              refine z_iload C d_Wa_tally_93 0 rfl ?_
              refine z_ishl C d_Wa_tally_95 ?_
              refine z_ixor C d_Wa_tally_96 ?_
              refine z_topi (fun y_35 ey_35 => ?_)
              have hf := zlet_at ey_35 hf
              refine z_istore_n (lv' := [(3, .int y_35), (6, .int y_30), (0, .ref h_this), (2, .int x2), (4, .int x4), (5, .int x5)]) C d_Wa_tally_97 rfl (by decide) rfl ?_
              refine z_iload C d_Wa_tally_98 4 rfl ?_
              refine z_aload_n C d_Wa_tally_100 rfl 2 rfl ?_
              refine z_get C iw_Wa 0 rfl rfl 2 (by decide) zw_111 rfl d_Wa_tally_101 ?_
              refine z_iload C d_Wa_tally_104 1 rfl ?_
              obtain ⟨g_36, hf⟩ := zguard hf
              refine z_iald C 2 0 rfl rfl g_36 d_Wa_tally_106 ?_
              refine z_ixor C d_Wa_tally_107 ?_
              refine z_topi (fun y_37 ey_37 => ?_)
              have hf := zlet_at ey_37 hf
              refine z_istore (lv' := [(4, .int y_37), (3, .int y_35), (6, .int y_30), (0, .ref h_this), (2, .int x2), (5, .int x5)]) C d_Wa_tally_108 (by decide) rfl ?_
              obtain ⟨y_38, ey_38⟩ : ∃ y : Int32, y = x5 + 1 := ⟨_, rfl⟩
              have hf := zlet_at ey_38 hf
              refine z_iinc (v := y_38) (lv' := [(5, .int y_38), (4, .int y_37), (3, .int y_35), (6, .int y_30), (0, .ref h_this), (2, .int x2)]) C d_Wa_tally_110 (k := 5) rfl (by rw [ey_38]; rfl) (by decide) rfl ?_
              refine z_goto (tgt := 16) C d_Wa_tally_113 (by decide) ?_
              refine z_lv [4, 5, 2, 1, 0] rfl ?_
              cases hf
              exact hK
theorem k_Wa_tally_l16_run {p : Program} {l : Launch} {e : Env} {s : State} {m : MethodId} {args : Array Value} {below : List Frame} {meth : Method} {c : Code} {D : va_G} {cI cL : ClassId} {h_this h_this_phases h_this_wayOf h_this_wiresOf h_this_tallies : Nat} {v_chosen x2 x3 x4 x5 : Int32} {v_tallies v_wiresOf v_phases o_tallies : Nat → Int32} (C : zC p s m args meth c b_Wa_tally 7 R_Wa D vwCl [(cI, .int), (cL, .long)] (zA [h_this, h_this_tallies, h_this_wiresOf, h_this_phases] s.heap.size)) (hr : meth.sig.returnType = none) {o0 : Nat → Int32} (hf : zloop (fun q => f_Wa_tally_l16 x2 v_chosen v_wiresOf v_phases q.1 q.2.1 q.2.2.1 q.2.2.2) zF (x3, x4, x5, v_tallies) = some o0) (hK : ZV p l e rm_Wa_tally s m args below meth c 7 D (none) [(h_this, .inr (3, [.ref h_this_phases, .ref h_this_wayOf, .ref h_this_wiresOf, .ref h_this_tallies, .int v_chosen])), (h_this_tallies, .inl (cI, 8, .inl o_tallies)), (h_this_wiresOf, .inl (cI, 12, .inl v_wiresOf)), (h_this_phases, .inl (cI, 4096, .inl v_phases))] [h_this, h_this_tallies, h_this_wiresOf, h_this_phases] [(h_this, .inr (3, [.ref h_this_phases, .ref h_this_wayOf, .ref h_this_wiresOf, .ref h_this_tallies, .int v_chosen])), (h_this_tallies, .inl (cI, 8, .inl o0)), (h_this_wiresOf, .inl (cI, 12, .inl v_wiresOf)), (h_this_phases, .inl (cI, 4096, .inl v_phases))] 116 [] []) : ZV p l e rm_Wa_tally s m args below meth c 7 D (none) [(h_this, .inr (3, [.ref h_this_phases, .ref h_this_wayOf, .ref h_this_wiresOf, .ref h_this_tallies, .int v_chosen])), (h_this_tallies, .inl (cI, 8, .inl o_tallies)), (h_this_wiresOf, .inl (cI, 12, .inl v_wiresOf)), (h_this_phases, .inl (cI, 4096, .inl v_phases))] [h_this, h_this_tallies, h_this_wiresOf, h_this_phases] [(h_this, .inr (3, [.ref h_this_phases, .ref h_this_wayOf, .ref h_this_wiresOf, .ref h_this_tallies, .int v_chosen])), (h_this_tallies, .inl (cI, 8, .inl v_tallies)), (h_this_wiresOf, .inl (cI, 12, .inl v_wiresOf)), (h_this_phases, .inl (cI, 4096, .inl v_phases))] 16 [(0, .ref h_this), (2, .int x2), (3, .int x3), (4, .int x4), (5, .int x5)] [] :=
  zloop_run (P := fun q => ZV p l e rm_Wa_tally s m args below meth c 7 D (none) [(h_this, .inr (3, [.ref h_this_phases, .ref h_this_wayOf, .ref h_this_wiresOf, .ref h_this_tallies, .int v_chosen])), (h_this_tallies, .inl (cI, 8, .inl o_tallies)), (h_this_wiresOf, .inl (cI, 12, .inl v_wiresOf)), (h_this_phases, .inl (cI, 4096, .inl v_phases))] [h_this, h_this_tallies, h_this_wiresOf, h_this_phases] [(h_this, .inr (3, [.ref h_this_phases, .ref h_this_wayOf, .ref h_this_wiresOf, .ref h_this_tallies, .int v_chosen])), (h_this_tallies, .inl (cI, 8, .inl q.2.2.2)), (h_this_wiresOf, .inl (cI, 12, .inl v_wiresOf)), (h_this_phases, .inl (cI, 4096, .inl v_phases))] 16 [(0, .ref h_this), (2, .int x2), (3, .int q.1), (4, .int q.2.1), (5, .int q.2.2.1)] []) (K := (fun q => ZV p l e rm_Wa_tally s m args below meth c 7 D (none) [(h_this, .inr (3, [.ref h_this_phases, .ref h_this_wayOf, .ref h_this_wiresOf, .ref h_this_tallies, .int v_chosen])), (h_this_tallies, .inl (cI, 8, .inl o_tallies)), (h_this_wiresOf, .inl (cI, 12, .inl v_wiresOf)), (h_this_phases, .inl (cI, 4096, .inl v_phases))] [h_this, h_this_tallies, h_this_wiresOf, h_this_phases] [(h_this, .inr (3, [.ref h_this_phases, .ref h_this_wayOf, .ref h_this_wiresOf, .ref h_this_tallies, .int v_chosen])), (h_this_tallies, .inl (cI, 8, .inl q)), (h_this_wiresOf, .inl (cI, 12, .inl v_wiresOf)), (h_this_phases, .inl (cI, 4096, .inl v_phases))] 116 [] [])) (fun q z hz hK => k_Wa_tally_l16 C hr hz hK) zF _ (o0) hf hK
/-- PathSums$Ways.tally(II)V -/
def f_Wa_tally (x1 : Int32) (x2 : Int32) (v_chosen : Int32) (v_tallies : Nat → Int32) (v_wiresOf : Nat → Int32) (v_phases : Nat → Int32) : Option ((Nat → Int32)) :=
  zb1 (f_Jarr_fill 8 (0 : Int32) v_tallies) fun q_2 =>
  zb1 (zloop (fun q => f_Wa_tally_l16 x2 v_chosen v_wiresOf v_phases q.1 q.2.1 q.2.2.1 q.2.2.2) zF ((0 : Int32), x1, (1 : Int32), q_2)) fun q_3 =>
  some (q_3)
set_option maxRecDepth 100000 in
set_option maxHeartbeats 4000000 in
theorem k_Wa_tally {p : Program} {l : Launch} {e : Env} {s : State} {m : MethodId} {args : Array Value} {below : List Frame} {meth : Method} {c : Code} {D : va_G} {cI cL : ClassId} {h_this h_this_phases h_this_wayOf h_this_wiresOf h_this_tallies : Nat} {v_chosen x1 x2 : Int32} {v_tallies v_wiresOf v_phases o_tallies : Nat → Int32} (C : zC p s m args meth c b_Wa_tally 7 R_Wa D vwCl [(cI, .int), (cL, .long)] (zA [h_this, h_this_tallies, h_this_wiresOf, h_this_phases] s.heap.size)) (hr : meth.sig.returnType = none) (hf : f_Wa_tally x1 x2 v_chosen v_tallies v_wiresOf v_phases = some o_tallies) : ZV p l e rm_Wa_tally s m args below meth c 7 D (none) [(h_this, .inr (3, [.ref h_this_phases, .ref h_this_wayOf, .ref h_this_wiresOf, .ref h_this_tallies, .int v_chosen])), (h_this_tallies, .inl (cI, 8, .inl o_tallies)), (h_this_wiresOf, .inl (cI, 12, .inl v_wiresOf)), (h_this_phases, .inl (cI, 4096, .inl v_phases))] [h_this, h_this_tallies, h_this_wiresOf, h_this_phases] [(h_this, .inr (3, [.ref h_this_phases, .ref h_this_wayOf, .ref h_this_wiresOf, .ref h_this_tallies, .int v_chosen])), (h_this_tallies, .inl (cI, 8, .inl v_tallies)), (h_this_wiresOf, .inl (cI, 12, .inl v_wiresOf)), (h_this_phases, .inl (cI, 4096, .inl v_phases))] 0 [(0, .ref h_this), (1, .int x1), (2, .int x2)] [] := by
  unfold f_Wa_tally at hf
  refine z_aload_n C d_Wa_tally_0 rfl 0 rfl ?_
  refine z_get C iw_Wa 0 rfl rfl 3 (by decide) zw_112 rfl d_Wa_tally_1 ?_
  refine z_iconst (v := 0) C d_Wa_tally_4 (by decide) ?_
  obtain ⟨q_2, h_1, hf⟩ := zb1_elim hf
  refine z_callS (As := [.ref h_this_tallies, .int (0 : Int32)]) (rest := []) (ws' := [(h_this, .inr (3, [.ref h_this_phases, .ref h_this_wayOf, .ref h_this_wiresOf, .ref h_this_tallies, .int v_chosen])), (h_this_tallies, .inl (cI, 8, .inl q_2)), (h_this_wiresOf, .inl (cI, 12, .inl v_wiresOf)), (h_this_phases, .inl (cI, 4096, .inl v_phases))]) C (c_Jarr_fill h_1) mi_Jarr_fill zw_445 (by decide) [1] (by decide) rfl rfl rfl rfl rfl (by decide) ⟨Nat.zero_le _, Nat.zero_le _⟩ d_Wa_tally_5 ?_
  refine z_iconst (v := 0) C d_Wa_tally_8 (by decide) ?_
  refine z_istore_n (lv' := [(3, .int (0 : Int32)), (0, .ref h_this), (1, .int x1), (2, .int x2)]) C d_Wa_tally_9 rfl (by decide) rfl ?_
  refine z_iload_n C d_Wa_tally_10 rfl 2 rfl ?_
  refine z_istore (lv' := [(4, .int x1), (3, .int (0 : Int32)), (0, .ref h_this), (1, .int x1), (2, .int x2)]) C d_Wa_tally_11 (by decide) rfl ?_
  refine z_iconst (v := 1) C d_Wa_tally_13 (by decide) ?_
  refine z_istore (lv' := [(5, .int (1 : Int32)), (4, .int x1), (3, .int (0 : Int32)), (0, .ref h_this), (1, .int x1), (2, .int x2)]) C d_Wa_tally_14 (by decide) rfl ?_
  refine z_lv [3, 5, 2, 1, 0] rfl ?_
  obtain ⟨q_3, h_4, hf⟩ := zb1_elim hf
  refine k_Wa_tally_l16_run C hr h_4 ?_
  cases hf
  exact z_vret C hr d_Wa_tally_116
theorem c_Wa_tally {l : Launch} {D : va_G} {cI cL : ClassId} {h_this h_this_phases h_this_wayOf h_this_wiresOf h_this_tallies : Nat} {v_chosen x1 x2 : Int32} {v_tallies v_wiresOf v_phases o_tallies : Nat → Int32} (hf : f_Wa_tally x1 x2 v_chosen v_tallies v_wiresOf v_phases = some o_tallies) : zM l y_Wa_tally (Cond.code y_Wa_tally b_Wa_tally 7 none :: zT) rm_Wa_tally D vwCl [(cI, .int), (cL, .long)] [.ref h_this, .int x1, .int x2] [(h_this, .inr (3, [.ref h_this_phases, .ref h_this_wayOf, .ref h_this_wiresOf, .ref h_this_tallies, .int v_chosen])), (h_this_tallies, .inl (cI, 8, .inl v_tallies)), (h_this_wiresOf, .inl (cI, 12, .inl v_wiresOf)), (h_this_phases, .inl (cI, 4096, .inl v_phases))] [(h_this, .inr (3, [.ref h_this_phases, .ref h_this_wayOf, .ref h_this_wiresOf, .ref h_this_tallies, .int v_chosen])), (h_this_tallies, .inl (cI, 8, .inl o_tallies)), (h_this_wiresOf, .inl (cI, 12, .inl v_wiresOf)), (h_this_phases, .inl (cI, 4096, .inl v_phases))] (none) :=
  zM.intro (by decide) rfl (fun _ h => List.mem_cons_of_mem _ h) (Nat.le_of_ble_eq_true rfl) (fun _ _ _ _ _ _ _ C hr _ => k_Wa_tally C hr hf)
def rm_Ro_multiplyByR : Room := { frames := 0, cells := 0, slots := 0, locals := 0 }
/-- PathSums$Root.multiplyByR()V -/
def f_Ro_multiplyByR (v_a : Int64) (v_b : Int64) (v_c : Int64) (v_d : Int64) : Int64 × Int64 × Int64 × Int64 :=
  zlet (v_b - v_d) fun y_1 =>
  zlet (v_a + v_c) fun y_2 =>
  zlet (v_b + v_d) fun y_3 =>
  zlet (v_c - v_a) fun y_4 =>
  (y_1, y_2, y_3, y_4)
set_option maxRecDepth 100000 in
set_option maxHeartbeats 4000000 in
theorem k_Ro_multiplyByR {p : Program} {l : Launch} {e : Env} {s : State} {m : MethodId} {args : Array Value} {below : List Frame} {meth : Method} {c : Code} {D : va_G} {cI cL : ClassId} {h_this : Nat} {v_a v_b v_c v_d o_a o_b o_c o_d : Int64} {v_k : Int32} (C : zC p s m args meth c b_Ro_multiplyByR 9 R_Ro D vwCl [(cI, .int), (cL, .long)] (zA [h_this] s.heap.size)) (hr : meth.sig.returnType = none) (hf : f_Ro_multiplyByR v_a v_b v_c v_d = (o_a, o_b, o_c, o_d)) : ZV p l e rm_Ro_multiplyByR s m args below meth c 9 D (none) [(h_this, .inr (2, [.long o_a, .long o_b, .long o_c, .long o_d, .int v_k]))] [h_this] [(h_this, .inr (2, [.long v_a, .long v_b, .long v_c, .long v_d, .int v_k]))] 0 [(0, .ref h_this)] [] := by
  unfold f_Ro_multiplyByR at hf
  refine z_aload_n C d_Ro_multiplyByR_0 rfl 0 rfl ?_
  refine z_get C iw_Ro 0 rfl rfl 1 (by decide) zw_133 rfl d_Ro_multiplyByR_1 ?_
  refine z_aload_n C d_Ro_multiplyByR_4 rfl 0 rfl ?_
  refine z_get C iw_Ro 0 rfl rfl 3 (by decide) zw_135 rfl d_Ro_multiplyByR_5 ?_
  refine z_lsub C d_Ro_multiplyByR_8 ?_
  refine z_topl (fun y_1 ey_1 => ?_)
  have hf := zlet_at ey_1 hf
  refine z_lstore_n (lv' := [(1, .long y_1), (0, .ref h_this)]) C d_Ro_multiplyByR_9 rfl (by decide) rfl ?_
  refine z_aload_n C d_Ro_multiplyByR_10 rfl 1 rfl ?_
  refine z_get C iw_Ro 0 rfl rfl 0 (by decide) zw_132 rfl d_Ro_multiplyByR_11 ?_
  refine z_aload_n C d_Ro_multiplyByR_14 rfl 1 rfl ?_
  refine z_get C iw_Ro 0 rfl rfl 2 (by decide) zw_134 rfl d_Ro_multiplyByR_15 ?_
  refine z_ladd C d_Ro_multiplyByR_18 ?_
  refine z_topl (fun y_2 ey_2 => ?_)
  have hf := zlet_at ey_2 hf
  refine z_lstore_n (lv' := [(3, .long y_2), (1, .long y_1), (0, .ref h_this)]) C d_Ro_multiplyByR_19 rfl (by decide) rfl ?_
  refine z_aload_n C d_Ro_multiplyByR_20 rfl 2 rfl ?_
  refine z_get C iw_Ro 0 rfl rfl 1 (by decide) zw_133 rfl d_Ro_multiplyByR_21 ?_
  refine z_aload_n C d_Ro_multiplyByR_24 rfl 2 rfl ?_
  refine z_get C iw_Ro 0 rfl rfl 3 (by decide) zw_135 rfl d_Ro_multiplyByR_25 ?_
  refine z_ladd C d_Ro_multiplyByR_28 ?_
  refine z_topl (fun y_3 ey_3 => ?_)
  have hf := zlet_at ey_3 hf
  refine z_lstore (lv' := [(5, .long y_3), (3, .long y_2), (1, .long y_1), (0, .ref h_this)]) C d_Ro_multiplyByR_29 (by decide) rfl ?_
  refine z_aload_n C d_Ro_multiplyByR_31 rfl 3 rfl ?_
  refine z_get C iw_Ro 0 rfl rfl 2 (by decide) zw_134 rfl d_Ro_multiplyByR_32 ?_
  refine z_aload_n C d_Ro_multiplyByR_35 rfl 3 rfl ?_
  refine z_get C iw_Ro 0 rfl rfl 0 (by decide) zw_132 rfl d_Ro_multiplyByR_36 ?_
  refine z_lsub C d_Ro_multiplyByR_39 ?_
  refine z_topl (fun y_4 ey_4 => ?_)
  have hf := zlet_at ey_4 hf
  refine z_lstore (lv' := [(7, .long y_4), (5, .long y_3), (3, .long y_2), (1, .long y_1), (0, .ref h_this)]) C d_Ro_multiplyByR_40 (by decide) rfl ?_
  refine z_aload_n C d_Ro_multiplyByR_42 rfl 4 rfl ?_
  refine z_lload_n C d_Ro_multiplyByR_43 rfl 3 rfl ?_
  refine z_put (ws' := [(h_this, .inr (2, [.long y_1, .long v_b, .long v_c, .long v_d, .int v_k]))]) C iw_Ro t_Ro t_Ro_ok n_Ro 0 rfl rfl 0 (by decide) zw_132 rfl (ty := .long) rfl rfl rfl (by simp) d_Ro_multiplyByR_44 rfl ?_
  refine z_aload_n C d_Ro_multiplyByR_47 rfl 4 rfl ?_
  refine z_lload_n C d_Ro_multiplyByR_48 rfl 2 rfl ?_
  refine z_put (ws' := [(h_this, .inr (2, [.long y_1, .long y_2, .long v_c, .long v_d, .int v_k]))]) C iw_Ro t_Ro t_Ro_ok n_Ro 0 rfl rfl 1 (by decide) zw_133 rfl (ty := .long) rfl rfl rfl (by simp) d_Ro_multiplyByR_49 rfl ?_
  refine z_aload_n C d_Ro_multiplyByR_52 rfl 4 rfl ?_
  refine z_lload C d_Ro_multiplyByR_53 1 rfl ?_
  refine z_put (ws' := [(h_this, .inr (2, [.long y_1, .long y_2, .long y_3, .long v_d, .int v_k]))]) C iw_Ro t_Ro t_Ro_ok n_Ro 0 rfl rfl 2 (by decide) zw_134 rfl (ty := .long) rfl rfl rfl (by simp) d_Ro_multiplyByR_55 rfl ?_
  refine z_aload_n C d_Ro_multiplyByR_58 rfl 4 rfl ?_
  refine z_lload C d_Ro_multiplyByR_59 0 rfl ?_
  refine z_put (ws' := [(h_this, .inr (2, [.long y_1, .long y_2, .long y_3, .long y_4, .int v_k]))]) C iw_Ro t_Ro t_Ro_ok n_Ro 0 rfl rfl 3 (by decide) zw_135 rfl (ty := .long) rfl rfl rfl (by simp) d_Ro_multiplyByR_61 rfl ?_
  cases hf
  exact z_vret C hr d_Ro_multiplyByR_64
theorem c_Ro_multiplyByR {l : Launch} {D : va_G} {cI cL : ClassId} {h_this : Nat} {v_a v_b v_c v_d o_a o_b o_c o_d : Int64} {v_k : Int32} (hf : f_Ro_multiplyByR v_a v_b v_c v_d = (o_a, o_b, o_c, o_d)) : zM l y_Ro_multiplyByR (Cond.code y_Ro_multiplyByR b_Ro_multiplyByR 9 none :: zT) rm_Ro_multiplyByR D vwCl [(cI, .int), (cL, .long)] [.ref h_this] [(h_this, .inr (2, [.long v_a, .long v_b, .long v_c, .long v_d, .int v_k]))] [(h_this, .inr (2, [.long o_a, .long o_b, .long o_c, .long o_d, .int v_k]))] (none) :=
  zM.intro (by decide) rfl (fun _ h => List.mem_cons_of_mem _ h) (Nat.le_of_ble_eq_true rfl) (fun _ _ _ _ _ _ _ C hr _ => k_Ro_multiplyByR C hr hf)
def rm_Ro_isMultipleOfR : Room := { frames := 0, cells := 0, slots := 0, locals := 0 }
/-- PathSums$Root.isMultipleOfR()Z -/
def f_Ro_isMultipleOfR (v_a : Int64) (v_b : Int64) (v_c : Int64) (v_d : Int64) : Int32 :=
  if (lg_cmp ((v_a - v_c) - (v_a - v_c) / (2 : Int64) * (2 : Int64)) (0 : Int64)) = 0 then (
    if (lg_cmp ((v_b - v_d) - (v_b - v_d) / (2 : Int64) * (2 : Int64)) (0 : Int64)) = 0 then (
      (1 : Int32))
    else (
      (0 : Int32)))
  else (
    (0 : Int32))
set_option maxRecDepth 100000 in
set_option maxHeartbeats 4000000 in
theorem k_Ro_isMultipleOfR {p : Program} {l : Launch} {e : Env} {s : State} {m : MethodId} {args : Array Value} {below : List Frame} {meth : Method} {c : Code} {D : va_G} {cI cL : ClassId} {h_this : Nat} {v_a v_b v_c v_d : Int64} {v_k rr : Int32} (C : zC p s m args meth c b_Ro_isMultipleOfR 1 R_Ro D vwCl [(cI, .int), (cL, .long)] (zA [h_this] s.heap.size)) (hr : meth.sig.returnType = some .boolean) (hf : f_Ro_isMultipleOfR v_a v_b v_c v_d = rr) : ZV p l e rm_Ro_isMultipleOfR s m args below meth c 1 D (some (.int rr)) [(h_this, .inr (2, [.long v_a, .long v_b, .long v_c, .long v_d, .int v_k]))] [h_this] [(h_this, .inr (2, [.long v_a, .long v_b, .long v_c, .long v_d, .int v_k]))] 0 [(0, .ref h_this)] [] := by
  unfold f_Ro_isMultipleOfR at hf
  refine z_aload_n C d_Ro_isMultipleOfR_0 rfl 0 rfl ?_
  refine z_get C iw_Ro 0 rfl rfl 0 (by decide) zw_132 rfl d_Ro_isMultipleOfR_1 ?_
  refine z_aload_n C d_Ro_isMultipleOfR_4 rfl 0 rfl ?_
  refine z_get C iw_Ro 0 rfl rfl 2 (by decide) zw_134 rfl d_Ro_isMultipleOfR_5 ?_
  refine z_lsub C d_Ro_isMultipleOfR_8 ?_
  refine z_ldc2 (v := 2) C zw_479 d_Ro_isMultipleOfR_9 ?_
  refine z_lrem C d_Ro_isMultipleOfR_12 (by decide) ?_
  refine z_lconst (v := 0) C d_Ro_isMultipleOfR_13 (by decide) ?_
  refine z_lcmp C d_Ro_isMultipleOfR_14 ?_
  refine z_if_ne (tgt := 40) C d_Ro_isMultipleOfR_15 (by decide) (fun c_1 => ?_) (fun c_1 => ?_)
  · have hf := zif_neg c_1 hf
    refine z_iconst (v := 0) C d_Ro_isMultipleOfR_40 (by decide) ?_
    subst hf
    exact z_zret C hr rfl d_Ro_isMultipleOfR_41
  · have hf := zif_pos c_1 hf
    refine z_aload_n C d_Ro_isMultipleOfR_18 rfl 0 rfl ?_
    refine z_get C iw_Ro 0 rfl rfl 1 (by decide) zw_133 rfl d_Ro_isMultipleOfR_19 ?_
    refine z_aload_n C d_Ro_isMultipleOfR_22 rfl 0 rfl ?_
    refine z_get C iw_Ro 0 rfl rfl 3 (by decide) zw_135 rfl d_Ro_isMultipleOfR_23 ?_
    refine z_lsub C d_Ro_isMultipleOfR_26 ?_
    refine z_ldc2 (v := 2) C zw_479 d_Ro_isMultipleOfR_27 ?_
    refine z_lrem C d_Ro_isMultipleOfR_30 (by decide) ?_
    refine z_lconst (v := 0) C d_Ro_isMultipleOfR_31 (by decide) ?_
    refine z_lcmp C d_Ro_isMultipleOfR_32 ?_
    refine z_if_ne (tgt := 40) C d_Ro_isMultipleOfR_33 (by decide) (fun c_2 => ?_) (fun c_2 => ?_)
    · have hf := zif_neg c_2 hf
      refine z_iconst (v := 0) C d_Ro_isMultipleOfR_40 (by decide) ?_
      subst hf
      exact z_zret C hr rfl d_Ro_isMultipleOfR_41
    · have hf := zif_pos c_2 hf
      refine z_iconst (v := 1) C d_Ro_isMultipleOfR_36 (by decide) ?_
      refine z_goto (tgt := 41) C d_Ro_isMultipleOfR_37 (by decide) ?_
      subst hf
      exact z_zret C hr rfl d_Ro_isMultipleOfR_41
theorem c_Ro_isMultipleOfR {l : Launch} {D : va_G} {cI cL : ClassId} {h_this : Nat} {v_a v_b v_c v_d : Int64} {v_k rr : Int32} (hf : f_Ro_isMultipleOfR v_a v_b v_c v_d = rr) : zM l y_Ro_isMultipleOfR (Cond.code y_Ro_isMultipleOfR b_Ro_isMultipleOfR 1 (some .boolean) :: zT) rm_Ro_isMultipleOfR D vwCl [(cI, .int), (cL, .long)] [.ref h_this] [(h_this, .inr (2, [.long v_a, .long v_b, .long v_c, .long v_d, .int v_k]))] [(h_this, .inr (2, [.long v_a, .long v_b, .long v_c, .long v_d, .int v_k]))] (some (.int rr)) :=
  zM.intro (by decide) rfl (fun _ h => List.mem_cons_of_mem _ h) (Nat.le_of_ble_eq_true rfl) (fun _ _ _ _ _ _ _ C hr _ => k_Ro_isMultipleOfR C hr hf)
def rm_Ro_halve : Room := { frames := 0, cells := 0, slots := 0, locals := 0 }
/-- PathSums$Root.halve()V -/
def f_Ro_halve (v_a : Int64) (v_b : Int64) (v_c : Int64) (v_d : Int64) : Int64 × Int64 × Int64 × Int64 :=
  zlet (v_a / (2 : Int64)) fun y_1 =>
  zlet (v_b / (2 : Int64)) fun y_2 =>
  zlet (v_c / (2 : Int64)) fun y_3 =>
  zlet (v_d / (2 : Int64)) fun y_4 =>
  (y_1, y_2, y_3, y_4)
set_option maxRecDepth 100000 in
set_option maxHeartbeats 4000000 in
theorem k_Ro_halve {p : Program} {l : Launch} {e : Env} {s : State} {m : MethodId} {args : Array Value} {below : List Frame} {meth : Method} {c : Code} {D : va_G} {cI cL : ClassId} {h_this : Nat} {v_a v_b v_c v_d o_a o_b o_c o_d : Int64} {v_k : Int32} (C : zC p s m args meth c b_Ro_halve 1 R_Ro D vwCl [(cI, .int), (cL, .long)] (zA [h_this] s.heap.size)) (hr : meth.sig.returnType = none) (hf : f_Ro_halve v_a v_b v_c v_d = (o_a, o_b, o_c, o_d)) : ZV p l e rm_Ro_halve s m args below meth c 1 D (none) [(h_this, .inr (2, [.long o_a, .long o_b, .long o_c, .long o_d, .int v_k]))] [h_this] [(h_this, .inr (2, [.long v_a, .long v_b, .long v_c, .long v_d, .int v_k]))] 0 [(0, .ref h_this)] [] := by
  unfold f_Ro_halve at hf
  refine z_aload_n C d_Ro_halve_0 rfl 0 rfl ?_
  refine z_dup C d_Ro_halve_1 rfl ?_
  refine z_get C iw_Ro 0 rfl rfl 0 (by decide) zw_132 rfl d_Ro_halve_2 ?_
  refine z_ldc2 (v := 2) C zw_479 d_Ro_halve_5 ?_
  refine z_ldiv C d_Ro_halve_8 (by decide) ?_
  refine z_topl (fun y_1 ey_1 => ?_)
  have hf := zlet_at ey_1 hf
  refine z_put (ws' := [(h_this, .inr (2, [.long y_1, .long v_b, .long v_c, .long v_d, .int v_k]))]) C iw_Ro t_Ro t_Ro_ok n_Ro 0 rfl rfl 0 (by decide) zw_132 rfl (ty := .long) rfl rfl rfl (by simp) d_Ro_halve_9 rfl ?_
  refine z_aload_n C d_Ro_halve_12 rfl 0 rfl ?_
  refine z_dup C d_Ro_halve_13 rfl ?_
  refine z_get C iw_Ro 0 rfl rfl 1 (by decide) zw_133 rfl d_Ro_halve_14 ?_
  refine z_ldc2 (v := 2) C zw_479 d_Ro_halve_17 ?_
  refine z_ldiv C d_Ro_halve_20 (by decide) ?_
  refine z_topl (fun y_2 ey_2 => ?_)
  have hf := zlet_at ey_2 hf
  refine z_put (ws' := [(h_this, .inr (2, [.long y_1, .long y_2, .long v_c, .long v_d, .int v_k]))]) C iw_Ro t_Ro t_Ro_ok n_Ro 0 rfl rfl 1 (by decide) zw_133 rfl (ty := .long) rfl rfl rfl (by simp) d_Ro_halve_21 rfl ?_
  refine z_aload_n C d_Ro_halve_24 rfl 0 rfl ?_
  refine z_dup C d_Ro_halve_25 rfl ?_
  refine z_get C iw_Ro 0 rfl rfl 2 (by decide) zw_134 rfl d_Ro_halve_26 ?_
  refine z_ldc2 (v := 2) C zw_479 d_Ro_halve_29 ?_
  refine z_ldiv C d_Ro_halve_32 (by decide) ?_
  refine z_topl (fun y_3 ey_3 => ?_)
  have hf := zlet_at ey_3 hf
  refine z_put (ws' := [(h_this, .inr (2, [.long y_1, .long y_2, .long y_3, .long v_d, .int v_k]))]) C iw_Ro t_Ro t_Ro_ok n_Ro 0 rfl rfl 2 (by decide) zw_134 rfl (ty := .long) rfl rfl rfl (by simp) d_Ro_halve_33 rfl ?_
  refine z_aload_n C d_Ro_halve_36 rfl 0 rfl ?_
  refine z_dup C d_Ro_halve_37 rfl ?_
  refine z_get C iw_Ro 0 rfl rfl 3 (by decide) zw_135 rfl d_Ro_halve_38 ?_
  refine z_ldc2 (v := 2) C zw_479 d_Ro_halve_41 ?_
  refine z_ldiv C d_Ro_halve_44 (by decide) ?_
  refine z_topl (fun y_4 ey_4 => ?_)
  have hf := zlet_at ey_4 hf
  refine z_put (ws' := [(h_this, .inr (2, [.long y_1, .long y_2, .long y_3, .long y_4, .int v_k]))]) C iw_Ro t_Ro t_Ro_ok n_Ro 0 rfl rfl 3 (by decide) zw_135 rfl (ty := .long) rfl rfl rfl (by simp) d_Ro_halve_45 rfl ?_
  cases hf
  exact z_vret C hr d_Ro_halve_48
theorem c_Ro_halve {l : Launch} {D : va_G} {cI cL : ClassId} {h_this : Nat} {v_a v_b v_c v_d o_a o_b o_c o_d : Int64} {v_k : Int32} (hf : f_Ro_halve v_a v_b v_c v_d = (o_a, o_b, o_c, o_d)) : zM l y_Ro_halve (Cond.code y_Ro_halve b_Ro_halve 1 none :: zT) rm_Ro_halve D vwCl [(cI, .int), (cL, .long)] [.ref h_this] [(h_this, .inr (2, [.long v_a, .long v_b, .long v_c, .long v_d, .int v_k]))] [(h_this, .inr (2, [.long o_a, .long o_b, .long o_c, .long o_d, .int v_k]))] (none) :=
  zM.intro (by decide) rfl (fun _ h => List.mem_cons_of_mem _ h) (Nat.le_of_ble_eq_true rfl) (fun _ _ _ _ _ _ _ C hr _ => k_Ro_halve C hr hf)
def rm_Ro_take : Room := { frames := 1, cells := 0, slots := 0, locals := 28 }
def f_Ro_take_l60 (x2 : Int32) (v_k : Int32) (v_arg0 : Nat → Int32) (x3 : Int32) (v_a : Int64) (v_b : Int64) (v_c : Int64) (v_d : Int64) : Option ((Int32 × Int64 × Int64 × Int64 × Int64) ⊕ (Int64 × Int64 × Int64 × Int64)) :=
  if 0 ≤ x3 then (
    some (.inr (v_a, v_b, v_c, v_d)))
  else (
    zl4 (f_Ro_multiplyByR v_a v_b v_c v_d) fun q_3 q_4 q_5 q_6 =>
    zlet (x3 + 1) fun y_7 =>
    some (.inl (y_7, q_3, q_4, q_5, q_6)))
set_option maxRecDepth 100000 in
set_option maxHeartbeats 4000000 in
theorem k_Ro_take_l60 {p : Program} {l : Launch} {e : Env} {s : State} {m : MethodId} {args : Array Value} {below : List Frame} {meth : Method} {c : Code} {D : va_G} {cI cL : ClassId} {h_this h_arg0 : Nat} {v_a v_b v_c v_d o_a o_b o_c o_d : Int64} {v_k o_k x2 x3 : Int32} {v_arg0 : Nat → Int32} (C : zC p s m args meth c b_Ro_take 4 R_Ro D vwCl [(cI, .int), (cL, .long)] (zA [h_this, h_arg0] s.heap.size)) (hr : meth.sig.returnType = none) {z : (Int32 × Int64 × Int64 × Int64 × Int64) ⊕ (Int64 × Int64 × Int64 × Int64)} (hf : f_Ro_take_l60 x2 v_k v_arg0 x3 v_a v_b v_c v_d = some z) (hK : zcase (fun q => ZV p l e rm_Ro_take s m args below meth c 4 D (none) [(h_this, .inr (2, [.long o_a, .long o_b, .long o_c, .long o_d, .int o_k])), (h_arg0, .inl (cI, 8, .inl v_arg0))] [h_this, h_arg0] [(h_this, .inr (2, [.long q.2.1, .long q.2.2.1, .long q.2.2.2.1, .long q.2.2.2.2, .int v_k])), (h_arg0, .inl (cI, 8, .inl v_arg0))] 60 [(0, .ref h_this), (2, .int x2), (3, .int q.1)] []) (fun q => ZV p l e rm_Ro_take s m args below meth c 4 D (none) [(h_this, .inr (2, [.long o_a, .long o_b, .long o_c, .long o_d, .int o_k])), (h_arg0, .inl (cI, 8, .inl v_arg0))] [h_this, h_arg0] [(h_this, .inr (2, [.long q.1, .long q.2.1, .long q.2.2.1, .long q.2.2.2, .int v_k])), (h_arg0, .inl (cI, 8, .inl v_arg0))] 74 [(0, .ref h_this), (2, .int x2)] []) z) : ZV p l e rm_Ro_take s m args below meth c 4 D (none) [(h_this, .inr (2, [.long o_a, .long o_b, .long o_c, .long o_d, .int o_k])), (h_arg0, .inl (cI, 8, .inl v_arg0))] [h_this, h_arg0] [(h_this, .inr (2, [.long v_a, .long v_b, .long v_c, .long v_d, .int v_k])), (h_arg0, .inl (cI, 8, .inl v_arg0))] 60 [(0, .ref h_this), (2, .int x2), (3, .int x3)] [] := by
  unfold f_Ro_take_l60 at hf
  refine z_iload_n C d_Ro_take_60 rfl 2 rfl ?_
  refine z_if_ge (tgt := 74) C d_Ro_take_61 (by decide) (fun c_1 => ?_) (fun c_1 => ?_)
  · have hf := zif_pos c_1 hf
    refine z_lv [0, 1] rfl ?_
    cases hf
    exact hK
  · have hf := zif_neg c_1 hf
    refine z_aload_n C d_Ro_take_64 rfl 0 rfl ?_
    obtain ⟨q_3, q_4, q_5, q_6, h_2, hf⟩ := zl4_elim hf
    refine z_callV (As := []) (rest := []) (ws' := [(h_this, .inr (2, [.long q_3, .long q_4, .long q_5, .long q_6, .int v_k])), (h_arg0, .inl (cI, 8, .inl v_arg0))]) C (c_Ro_multiplyByR h_2) mi_Ro_multiplyByR zw_468 (by decide) 0 rfl rfl [0] (by decide) rfl rfl rfl rfl rfl (by decide) ⟨Nat.zero_le _, Nat.zero_le _⟩ d_Ro_take_65 ?_
    obtain ⟨y_7, ey_7⟩ : ∃ y : Int32, y = x3 + 1 := ⟨_, rfl⟩
    have hf := zlet_at ey_7 hf
    refine z_iinc (v := y_7) (lv' := [(3, .int y_7), (0, .ref h_this), (2, .int x2)]) C d_Ro_take_68 (k := 2) rfl (by rw [ey_7]; rfl) (by decide) rfl ?_
    refine z_goto (tgt := 60) C d_Ro_take_71 (by decide) ?_
    refine z_lv [1, 2, 0] rfl ?_
    cases hf
    exact hK
theorem k_Ro_take_l60_run {p : Program} {l : Launch} {e : Env} {s : State} {m : MethodId} {args : Array Value} {below : List Frame} {meth : Method} {c : Code} {D : va_G} {cI cL : ClassId} {h_this h_arg0 : Nat} {v_a v_b v_c v_d o_a o_b o_c o_d : Int64} {v_k o_k x2 x3 : Int32} {v_arg0 : Nat → Int32} (C : zC p s m args meth c b_Ro_take 4 R_Ro D vwCl [(cI, .int), (cL, .long)] (zA [h_this, h_arg0] s.heap.size)) (hr : meth.sig.returnType = none) {o0 : Int64} {o1 : Int64} {o2 : Int64} {o3 : Int64} (hf : zloop (fun q => f_Ro_take_l60 x2 v_k v_arg0 q.1 q.2.1 q.2.2.1 q.2.2.2.1 q.2.2.2.2) zF (x3, v_a, v_b, v_c, v_d) = some (o0, o1, o2, o3)) (hK : ZV p l e rm_Ro_take s m args below meth c 4 D (none) [(h_this, .inr (2, [.long o_a, .long o_b, .long o_c, .long o_d, .int o_k])), (h_arg0, .inl (cI, 8, .inl v_arg0))] [h_this, h_arg0] [(h_this, .inr (2, [.long o0, .long o1, .long o2, .long o3, .int v_k])), (h_arg0, .inl (cI, 8, .inl v_arg0))] 74 [(0, .ref h_this), (2, .int x2)] []) : ZV p l e rm_Ro_take s m args below meth c 4 D (none) [(h_this, .inr (2, [.long o_a, .long o_b, .long o_c, .long o_d, .int o_k])), (h_arg0, .inl (cI, 8, .inl v_arg0))] [h_this, h_arg0] [(h_this, .inr (2, [.long v_a, .long v_b, .long v_c, .long v_d, .int v_k])), (h_arg0, .inl (cI, 8, .inl v_arg0))] 60 [(0, .ref h_this), (2, .int x2), (3, .int x3)] [] :=
  zloop_run (P := fun q => ZV p l e rm_Ro_take s m args below meth c 4 D (none) [(h_this, .inr (2, [.long o_a, .long o_b, .long o_c, .long o_d, .int o_k])), (h_arg0, .inl (cI, 8, .inl v_arg0))] [h_this, h_arg0] [(h_this, .inr (2, [.long q.2.1, .long q.2.2.1, .long q.2.2.2.1, .long q.2.2.2.2, .int v_k])), (h_arg0, .inl (cI, 8, .inl v_arg0))] 60 [(0, .ref h_this), (2, .int x2), (3, .int q.1)] []) (K := (fun q => ZV p l e rm_Ro_take s m args below meth c 4 D (none) [(h_this, .inr (2, [.long o_a, .long o_b, .long o_c, .long o_d, .int o_k])), (h_arg0, .inl (cI, 8, .inl v_arg0))] [h_this, h_arg0] [(h_this, .inr (2, [.long q.1, .long q.2.1, .long q.2.2.1, .long q.2.2.2, .int v_k])), (h_arg0, .inl (cI, 8, .inl v_arg0))] 74 [(0, .ref h_this), (2, .int x2)] [])) (fun q z hz hK => k_Ro_take_l60 C hr hz hK) zF _ ((o0, o1, o2, o3)) hf hK
def f_Ro_take_l83 (v_arg0 : Nat → Int32) (v_a : Int64) (v_b : Int64) (v_c : Int64) (v_d : Int64) (v_k : Int32) : Option ((Int64 × Int64 × Int64 × Int64 × Int32) ⊕ (Int64 × Int64 × Int64 × Int64 × Int32)) :=
  if v_k ≤ 0 then (
    some (.inr (v_a, v_b, v_c, v_d, v_k)))
  else (
    if (f_Ro_isMultipleOfR v_a v_b v_c v_d) = 0 then (
      some (.inr (v_a, v_b, v_c, v_d, v_k)))
    else (
      zl4 (f_Ro_multiplyByR v_a v_b v_c v_d) fun q_5 q_6 q_7 q_8 =>
      zl4 (f_Ro_halve q_5 q_6 q_7 q_8) fun q_10 q_11 q_12 q_13 =>
      zlet (v_k - (1 : Int32)) fun y_14 =>
      some (.inl (q_10, q_11, q_12, q_13, y_14))))
set_option maxRecDepth 100000 in
set_option maxHeartbeats 4000000 in
theorem k_Ro_take_l83 {p : Program} {l : Launch} {e : Env} {s : State} {m : MethodId} {args : Array Value} {below : List Frame} {meth : Method} {c : Code} {D : va_G} {cI cL : ClassId} {h_this h_arg0 : Nat} {v_a v_b v_c v_d o_a o_b o_c o_d : Int64} {v_k o_k : Int32} {v_arg0 : Nat → Int32} (C : zC p s m args meth c b_Ro_take 4 R_Ro D vwCl [(cI, .int), (cL, .long)] (zA [h_this, h_arg0] s.heap.size)) (hr : meth.sig.returnType = none) {z : (Int64 × Int64 × Int64 × Int64 × Int32) ⊕ (Int64 × Int64 × Int64 × Int64 × Int32)} (hf : f_Ro_take_l83 v_arg0 v_a v_b v_c v_d v_k = some z) (hK : zcase (fun q => ZV p l e rm_Ro_take s m args below meth c 4 D (none) [(h_this, .inr (2, [.long o_a, .long o_b, .long o_c, .long o_d, .int o_k])), (h_arg0, .inl (cI, 8, .inl v_arg0))] [h_this, h_arg0] [(h_this, .inr (2, [.long q.1, .long q.2.1, .long q.2.2.1, .long q.2.2.2.1, .int q.2.2.2.2])), (h_arg0, .inl (cI, 8, .inl v_arg0))] 83 [(0, .ref h_this)] []) (fun q => ZV p l e rm_Ro_take s m args below meth c 4 D (none) [(h_this, .inr (2, [.long o_a, .long o_b, .long o_c, .long o_d, .int o_k])), (h_arg0, .inl (cI, 8, .inl v_arg0))] [h_this, h_arg0] [(h_this, .inr (2, [.long q.1, .long q.2.1, .long q.2.2.1, .long q.2.2.2.1, .int q.2.2.2.2])), (h_arg0, .inl (cI, 8, .inl v_arg0))] 118 [] []) z) : ZV p l e rm_Ro_take s m args below meth c 4 D (none) [(h_this, .inr (2, [.long o_a, .long o_b, .long o_c, .long o_d, .int o_k])), (h_arg0, .inl (cI, 8, .inl v_arg0))] [h_this, h_arg0] [(h_this, .inr (2, [.long v_a, .long v_b, .long v_c, .long v_d, .int v_k])), (h_arg0, .inl (cI, 8, .inl v_arg0))] 83 [(0, .ref h_this)] [] := by
  unfold f_Ro_take_l83 at hf
  refine z_aload_n C d_Ro_take_83 rfl 0 rfl ?_
  refine z_get C iw_Ro 0 rfl rfl 4 (by decide) zw_136 rfl d_Ro_take_84 ?_
  refine z_if_le (tgt := 118) C d_Ro_take_87 (by decide) (fun c_1 => ?_) (fun c_1 => ?_)
  · have hf := zif_pos c_1 hf
    refine z_lv [] rfl ?_
    cases hf
    exact hK
  · have hf := zif_neg c_1 hf
    refine z_aload_n C d_Ro_take_90 rfl 0 rfl ?_
    refine z_callV (As := []) (rest := []) (ws' := [(h_this, .inr (2, [.long v_a, .long v_b, .long v_c, .long v_d, .int v_k])), (h_arg0, .inl (cI, 8, .inl v_arg0))]) C (c_Ro_isMultipleOfR rfl) mi_Ro_isMultipleOfR zw_475 (by decide) 0 rfl rfl [0] (by decide) rfl rfl rfl rfl rfl (by decide) ⟨Nat.zero_le _, Nat.zero_le _⟩ d_Ro_take_91 ?_
    refine z_if_eq (tgt := 118) C d_Ro_take_94 (by decide) (fun c_3 => ?_) (fun c_3 => ?_)
    · have hf := zif_pos c_3 hf
      refine z_lv [] rfl ?_
      cases hf
      exact hK
    · have hf := zif_neg c_3 hf
      refine z_aload_n C d_Ro_take_97 rfl 0 rfl ?_
      obtain ⟨q_5, q_6, q_7, q_8, h_4, hf⟩ := zl4_elim hf
      refine z_callV (As := []) (rest := []) (ws' := [(h_this, .inr (2, [.long q_5, .long q_6, .long q_7, .long q_8, .int v_k])), (h_arg0, .inl (cI, 8, .inl v_arg0))]) C (c_Ro_multiplyByR h_4) mi_Ro_multiplyByR zw_468 (by decide) 0 rfl rfl [0] (by decide) rfl rfl rfl rfl rfl (by decide) ⟨Nat.zero_le _, Nat.zero_le _⟩ d_Ro_take_98 ?_
      refine z_aload_n C d_Ro_take_101 rfl 0 rfl ?_
      obtain ⟨q_10, q_11, q_12, q_13, h_9, hf⟩ := zl4_elim hf
      refine z_callV (As := []) (rest := []) (ws' := [(h_this, .inr (2, [.long q_10, .long q_11, .long q_12, .long q_13, .int v_k])), (h_arg0, .inl (cI, 8, .inl v_arg0))]) C (c_Ro_halve h_9) mi_Ro_halve zw_480 (by decide) 0 rfl rfl [0] (by decide) rfl rfl rfl rfl rfl (by decide) ⟨Nat.zero_le _, Nat.zero_le _⟩ d_Ro_take_102 ?_
      refine z_aload_n C d_Ro_take_105 rfl 0 rfl ?_
      refine z_dup C d_Ro_take_106 rfl ?_
      refine z_get C iw_Ro 0 rfl rfl 4 (by decide) zw_136 rfl d_Ro_take_107 ?_
      refine z_iconst (v := 1) C d_Ro_take_110 (by decide) ?_
      refine z_isub C d_Ro_take_111 ?_
      refine z_topi (fun y_14 ey_14 => ?_)
      have hf := zlet_at ey_14 hf
      refine z_put (ws' := [(h_this, .inr (2, [.long q_10, .long q_11, .long q_12, .long q_13, .int y_14])), (h_arg0, .inl (cI, 8, .inl v_arg0))]) C iw_Ro t_Ro t_Ro_ok n_Ro 0 rfl rfl 4 (by decide) zw_136 rfl (ty := .int) rfl rfl rfl (by simp) d_Ro_take_112 rfl ?_
      refine z_goto (tgt := 83) C d_Ro_take_115 (by decide) ?_
      cases hf
      exact hK
theorem k_Ro_take_l83_run {p : Program} {l : Launch} {e : Env} {s : State} {m : MethodId} {args : Array Value} {below : List Frame} {meth : Method} {c : Code} {D : va_G} {cI cL : ClassId} {h_this h_arg0 : Nat} {v_a v_b v_c v_d o_a o_b o_c o_d : Int64} {v_k o_k : Int32} {v_arg0 : Nat → Int32} (C : zC p s m args meth c b_Ro_take 4 R_Ro D vwCl [(cI, .int), (cL, .long)] (zA [h_this, h_arg0] s.heap.size)) (hr : meth.sig.returnType = none) {o0 : Int64} {o1 : Int64} {o2 : Int64} {o3 : Int64} {o4 : Int32} (hf : zloop (fun q => f_Ro_take_l83 v_arg0 q.1 q.2.1 q.2.2.1 q.2.2.2.1 q.2.2.2.2) zF (v_a, v_b, v_c, v_d, v_k) = some (o0, o1, o2, o3, o4)) (hK : ZV p l e rm_Ro_take s m args below meth c 4 D (none) [(h_this, .inr (2, [.long o_a, .long o_b, .long o_c, .long o_d, .int o_k])), (h_arg0, .inl (cI, 8, .inl v_arg0))] [h_this, h_arg0] [(h_this, .inr (2, [.long o0, .long o1, .long o2, .long o3, .int o4])), (h_arg0, .inl (cI, 8, .inl v_arg0))] 118 [] []) : ZV p l e rm_Ro_take s m args below meth c 4 D (none) [(h_this, .inr (2, [.long o_a, .long o_b, .long o_c, .long o_d, .int o_k])), (h_arg0, .inl (cI, 8, .inl v_arg0))] [h_this, h_arg0] [(h_this, .inr (2, [.long v_a, .long v_b, .long v_c, .long v_d, .int v_k])), (h_arg0, .inl (cI, 8, .inl v_arg0))] 83 [(0, .ref h_this)] [] :=
  zloop_run (P := fun q => ZV p l e rm_Ro_take s m args below meth c 4 D (none) [(h_this, .inr (2, [.long o_a, .long o_b, .long o_c, .long o_d, .int o_k])), (h_arg0, .inl (cI, 8, .inl v_arg0))] [h_this, h_arg0] [(h_this, .inr (2, [.long q.1, .long q.2.1, .long q.2.2.1, .long q.2.2.2.1, .int q.2.2.2.2])), (h_arg0, .inl (cI, 8, .inl v_arg0))] 83 [(0, .ref h_this)] []) (K := (fun q => ZV p l e rm_Ro_take s m args below meth c 4 D (none) [(h_this, .inr (2, [.long o_a, .long o_b, .long o_c, .long o_d, .int o_k])), (h_arg0, .inl (cI, 8, .inl v_arg0))] [h_this, h_arg0] [(h_this, .inr (2, [.long q.1, .long q.2.1, .long q.2.2.1, .long q.2.2.2.1, .int q.2.2.2.2])), (h_arg0, .inl (cI, 8, .inl v_arg0))] 118 [] [])) (fun q z hz hK => k_Ro_take_l83 C hr hz hK) zF _ ((o0, o1, o2, o3, o4)) hf hK
/-- PathSums$Root.take([II)V -/
def f_Ro_take (x2 : Int32) (v_a : Int64) (v_b : Int64) (v_c : Int64) (v_d : Int64) (v_k : Int32) (v_arg0 : Nat → Int32) : Option (Int64 × Int64 × Int64 × Int64 × Int32) :=
  zlet (((v_arg0 (0 : Int32).toNatClampNeg) - (v_arg0 (4 : Int32).toNatClampNeg)).toInt64) fun y_1 =>
  zlet (((v_arg0 (1 : Int32).toNatClampNeg) - (v_arg0 (5 : Int32).toNatClampNeg)).toInt64) fun y_2 =>
  zlet (((v_arg0 (2 : Int32).toNatClampNeg) - (v_arg0 (6 : Int32).toNatClampNeg)).toInt64) fun y_3 =>
  zlet (((v_arg0 (3 : Int32).toNatClampNeg) - (v_arg0 (7 : Int32).toNatClampNeg)).toInt64) fun y_4 =>
  zb4 (zloop (fun q => f_Ro_take_l60 x2 v_k v_arg0 q.1 q.2.1 q.2.2.1 q.2.2.2.1 q.2.2.2.2) zF (x2, y_1, y_2, y_3, y_4)) fun q_5 q_6 q_7 q_8 =>
  zlet (if x2 < (0 : Int32) then (0 : Int32) else x2) fun y_10 =>
  zb5 (zloop (fun q => f_Ro_take_l83 v_arg0 q.1 q.2.1 q.2.2.1 q.2.2.2.1 q.2.2.2.2) zF (q_5, q_6, q_7, q_8, y_10)) fun q_11 q_12 q_13 q_14 q_15 =>
  some (q_11, q_12, q_13, q_14, q_15)
set_option maxRecDepth 100000 in
set_option maxHeartbeats 4000000 in
theorem k_Ro_take {p : Program} {l : Launch} {e : Env} {s : State} {m : MethodId} {args : Array Value} {below : List Frame} {meth : Method} {c : Code} {D : va_G} {cI cL : ClassId} {h_this h_arg0 : Nat} {v_a v_b v_c v_d o_a o_b o_c o_d : Int64} {v_k o_k x2 : Int32} {v_arg0 : Nat → Int32} (C : zC p s m args meth c b_Ro_take 4 R_Ro D vwCl [(cI, .int), (cL, .long)] (zA [h_this, h_arg0] s.heap.size)) (hr : meth.sig.returnType = none) (hf : f_Ro_take x2 v_a v_b v_c v_d v_k v_arg0 = some (o_a, o_b, o_c, o_d, o_k)) : ZV p l e rm_Ro_take s m args below meth c 4 D (none) [(h_this, .inr (2, [.long o_a, .long o_b, .long o_c, .long o_d, .int o_k])), (h_arg0, .inl (cI, 8, .inl v_arg0))] [h_this, h_arg0] [(h_this, .inr (2, [.long v_a, .long v_b, .long v_c, .long v_d, .int v_k])), (h_arg0, .inl (cI, 8, .inl v_arg0))] 0 [(0, .ref h_this), (1, .ref h_arg0), (2, .int x2)] [] := by
  unfold f_Ro_take at hf
  refine z_aload_n C d_Ro_take_0 rfl 1 rfl ?_
  refine z_alen (v := 8) C 1 0 rfl rfl (by decide) d_Ro_take_1 ?_
  refine z_bipush (v := 8) C d_Ro_take_2 (by decide) ?_
  refine z_icmp_ge (tgt := 8) C d_Ro_take_4 (by decide) (fun _ => ?_) (fun c => absurd c (by decide))
  refine z_aload_n C d_Ro_take_8 rfl 0 rfl ?_
  refine z_aload_n C d_Ro_take_9 rfl 1 rfl ?_
  refine z_iconst (v := 0) C d_Ro_take_10 (by decide) ?_
  refine z_iald C 1 0 rfl rfl (by decide) d_Ro_take_11 ?_
  refine z_aload_n C d_Ro_take_12 rfl 1 rfl ?_
  refine z_iconst (v := 4) C d_Ro_take_13 (by decide) ?_
  refine z_iald C 1 0 rfl rfl (by decide) d_Ro_take_14 ?_
  refine z_isub C d_Ro_take_15 ?_
  refine z_i2l C d_Ro_take_16 ?_
  refine z_topl (fun y_1 ey_1 => ?_)
  have hf := zlet_at ey_1 hf
  refine z_put (ws' := [(h_this, .inr (2, [.long y_1, .long v_b, .long v_c, .long v_d, .int v_k])), (h_arg0, .inl (cI, 8, .inl v_arg0))]) C iw_Ro t_Ro t_Ro_ok n_Ro 0 rfl rfl 0 (by decide) zw_132 rfl (ty := .long) rfl rfl rfl (by simp) d_Ro_take_17 rfl ?_
  refine z_aload_n C d_Ro_take_20 rfl 0 rfl ?_
  refine z_aload_n C d_Ro_take_21 rfl 1 rfl ?_
  refine z_iconst (v := 1) C d_Ro_take_22 (by decide) ?_
  refine z_iald C 1 0 rfl rfl (by decide) d_Ro_take_23 ?_
  refine z_aload_n C d_Ro_take_24 rfl 1 rfl ?_
  refine z_iconst (v := 5) C d_Ro_take_25 (by decide) ?_
  refine z_iald C 1 0 rfl rfl (by decide) d_Ro_take_26 ?_
  refine z_isub C d_Ro_take_27 ?_
  refine z_i2l C d_Ro_take_28 ?_
  refine z_topl (fun y_2 ey_2 => ?_)
  have hf := zlet_at ey_2 hf
  refine z_put (ws' := [(h_this, .inr (2, [.long y_1, .long y_2, .long v_c, .long v_d, .int v_k])), (h_arg0, .inl (cI, 8, .inl v_arg0))]) C iw_Ro t_Ro t_Ro_ok n_Ro 0 rfl rfl 1 (by decide) zw_133 rfl (ty := .long) rfl rfl rfl (by simp) d_Ro_take_29 rfl ?_
  refine z_aload_n C d_Ro_take_32 rfl 0 rfl ?_
  refine z_aload_n C d_Ro_take_33 rfl 1 rfl ?_
  refine z_iconst (v := 2) C d_Ro_take_34 (by decide) ?_
  refine z_iald C 1 0 rfl rfl (by decide) d_Ro_take_35 ?_
  refine z_aload_n C d_Ro_take_36 rfl 1 rfl ?_
  refine z_bipush (v := 6) C d_Ro_take_37 (by decide) ?_
  refine z_iald C 1 0 rfl rfl (by decide) d_Ro_take_39 ?_
  refine z_isub C d_Ro_take_40 ?_
  refine z_i2l C d_Ro_take_41 ?_
  refine z_topl (fun y_3 ey_3 => ?_)
  have hf := zlet_at ey_3 hf
  refine z_put (ws' := [(h_this, .inr (2, [.long y_1, .long y_2, .long y_3, .long v_d, .int v_k])), (h_arg0, .inl (cI, 8, .inl v_arg0))]) C iw_Ro t_Ro t_Ro_ok n_Ro 0 rfl rfl 2 (by decide) zw_134 rfl (ty := .long) rfl rfl rfl (by simp) d_Ro_take_42 rfl ?_
  refine z_aload_n C d_Ro_take_45 rfl 0 rfl ?_
  refine z_aload_n C d_Ro_take_46 rfl 1 rfl ?_
  refine z_iconst (v := 3) C d_Ro_take_47 (by decide) ?_
  refine z_iald C 1 0 rfl rfl (by decide) d_Ro_take_48 ?_
  refine z_aload_n C d_Ro_take_49 rfl 1 rfl ?_
  refine z_bipush (v := 7) C d_Ro_take_50 (by decide) ?_
  refine z_iald C 1 0 rfl rfl (by decide) d_Ro_take_52 ?_
  refine z_isub C d_Ro_take_53 ?_
  refine z_i2l C d_Ro_take_54 ?_
  refine z_topl (fun y_4 ey_4 => ?_)
  have hf := zlet_at ey_4 hf
  refine z_put (ws' := [(h_this, .inr (2, [.long y_1, .long y_2, .long y_3, .long y_4, .int v_k])), (h_arg0, .inl (cI, 8, .inl v_arg0))]) C iw_Ro t_Ro t_Ro_ok n_Ro 0 rfl rfl 3 (by decide) zw_135 rfl (ty := .long) rfl rfl rfl (by simp) d_Ro_take_55 rfl ?_
  refine z_iload_n C d_Ro_take_58 rfl 2 rfl ?_
  refine z_istore_n (lv' := [(3, .int x2), (0, .ref h_this), (1, .ref h_arg0), (2, .int x2)]) C d_Ro_take_59 rfl (by decide) rfl ?_
  refine z_lv [1, 3, 0] rfl ?_
  obtain ⟨q_5, q_6, q_7, q_8, h_9, hf⟩ := zb4_elim hf
  refine k_Ro_take_l60_run C hr h_9 ?_
  refine z_aload_n C d_Ro_take_74 rfl 0 rfl ?_
  refine z_iload_n C d_Ro_take_75 rfl 1 rfl ?_
  refine z_iconst (v := 0) C d_Ro_take_76 (by decide) ?_
  refine z_mmax C zw_472 zw_473 zw_59 zw_474 (by decide) d_Ro_take_77 ?_
  refine z_topi (fun y_10 ey_10 => ?_)
  have hf := zlet_at ey_10 hf
  refine z_put (ws' := [(h_this, .inr (2, [.long q_5, .long q_6, .long q_7, .long q_8, .int y_10])), (h_arg0, .inl (cI, 8, .inl v_arg0))]) C iw_Ro t_Ro t_Ro_ok n_Ro 0 rfl rfl 4 (by decide) zw_136 rfl (ty := .int) rfl rfl rfl (by simp) d_Ro_take_80 rfl ?_
  refine z_lv [0] rfl ?_
  obtain ⟨q_11, q_12, q_13, q_14, q_15, h_16, hf⟩ := zb5_elim hf
  refine k_Ro_take_l83_run C hr h_16 ?_
  cases hf
  exact z_vret C hr d_Ro_take_118
theorem c_Ro_take {l : Launch} {D : va_G} {cI cL : ClassId} {h_this h_arg0 : Nat} {v_a v_b v_c v_d o_a o_b o_c o_d : Int64} {v_k o_k x2 : Int32} {v_arg0 : Nat → Int32} (hf : f_Ro_take x2 v_a v_b v_c v_d v_k v_arg0 = some (o_a, o_b, o_c, o_d, o_k)) : zM l y_Ro_take (Cond.code y_Ro_take b_Ro_take 4 none :: zT) rm_Ro_take D vwCl [(cI, .int), (cL, .long)] [.ref h_this, .ref h_arg0, .int x2] [(h_this, .inr (2, [.long v_a, .long v_b, .long v_c, .long v_d, .int v_k])), (h_arg0, .inl (cI, 8, .inl v_arg0))] [(h_this, .inr (2, [.long o_a, .long o_b, .long o_c, .long o_d, .int o_k])), (h_arg0, .inl (cI, 8, .inl v_arg0))] (none) :=
  zM.intro (by decide) rfl (fun _ h => List.mem_cons_of_mem _ h) (Nat.le_of_ble_eq_true rfl) (fun _ _ _ _ _ _ _ C hr _ => k_Ro_take C hr hf)
def rm_Ro_look : Room := { frames := 0, cells := 0, slots := 0, locals := 0 }
/-- PathSums$Root.look(I)J -/
def f_Ro_look (x1 : Int32) (v_a : Int64) (v_b : Int64) (v_c : Int64) (v_d : Int64) (v_k : Int32) : Int64 :=
  if x1 = 0 then (
    v_a)
  else (
  if x1 = 1 then (
    v_b)
  else (
  if x1 = 2 then (
    v_c)
  else (
  if x1 = 3 then (
    v_d)
  else (
  v_k.toInt64))))
set_option maxRecDepth 100000 in
set_option maxHeartbeats 4000000 in
theorem k_Ro_look {p : Program} {l : Launch} {e : Env} {s : State} {m : MethodId} {args : Array Value} {below : List Frame} {meth : Method} {c : Code} {D : va_G} {cI cL : ClassId} {h_this : Nat} {v_a v_b v_c v_d rr : Int64} {v_k x1 : Int32} (C : zC p s m args meth c b_Ro_look 2 R_Ro D vwCl [(cI, .int), (cL, .long)] (zA [h_this] s.heap.size)) (hr : meth.sig.returnType = some .long) (hf : f_Ro_look x1 v_a v_b v_c v_d v_k = rr) : ZV p l e rm_Ro_look s m args below meth c 2 D (some (.long rr)) [(h_this, .inr (2, [.long v_a, .long v_b, .long v_c, .long v_d, .int v_k]))] [h_this] [(h_this, .inr (2, [.long v_a, .long v_b, .long v_c, .long v_d, .int v_k]))] 0 [(0, .ref h_this), (1, .int x1)] [] := by
  unfold f_Ro_look at hf
  refine z_iload_n C d_Ro_look_0 rfl 1 rfl ?_
  by_cases c_1 : x1 = 0
  · have hf := zif_pos c_1 hf
    refine z_tableIn (tgt := 32) C d_Ro_look_1 (0) c_1 (by decide) (by decide) rfl (by decide) ?_
    refine z_aload_n C d_Ro_look_32 rfl 0 rfl ?_
    refine z_get C iw_Ro 0 rfl rfl 0 (by decide) zw_132 rfl d_Ro_look_33 ?_
    subst hf
    exact z_lret C hr d_Ro_look_36
  · have hf := zif_neg c_1 hf
    by_cases c_2 : x1 = 1
    · have hf := zif_pos c_2 hf
      refine z_tableIn (tgt := 37) C d_Ro_look_1 (1) c_2 (by decide) (by decide) rfl (by decide) ?_
      refine z_aload_n C d_Ro_look_37 rfl 0 rfl ?_
      refine z_get C iw_Ro 0 rfl rfl 1 (by decide) zw_133 rfl d_Ro_look_38 ?_
      subst hf
      exact z_lret C hr d_Ro_look_41
    · have hf := zif_neg c_2 hf
      by_cases c_3 : x1 = 2
      · have hf := zif_pos c_3 hf
        refine z_tableIn (tgt := 42) C d_Ro_look_1 (2) c_3 (by decide) (by decide) rfl (by decide) ?_
        refine z_aload_n C d_Ro_look_42 rfl 0 rfl ?_
        refine z_get C iw_Ro 0 rfl rfl 2 (by decide) zw_134 rfl d_Ro_look_43 ?_
        subst hf
        exact z_lret C hr d_Ro_look_46
      · have hf := zif_neg c_3 hf
        by_cases c_4 : x1 = 3
        · have hf := zif_pos c_4 hf
          refine z_tableIn (tgt := 47) C d_Ro_look_1 (3) c_4 (by decide) (by decide) rfl (by decide) ?_
          refine z_aload_n C d_Ro_look_47 rfl 0 rfl ?_
          refine z_get C iw_Ro 0 rfl rfl 3 (by decide) zw_135 rfl d_Ro_look_48 ?_
          subst hf
          exact z_lret C hr d_Ro_look_51
        · have hf := zif_neg c_4 hf
          have nc_1 : ¬ x1.toInt = 0 := zne c_1
          have nc_2 : ¬ x1.toInt = 1 := zne c_2
          have nc_3 : ¬ x1.toInt = 2 := zne c_3
          have nc_4 : ¬ x1.toInt = 3 := zne c_4
          refine z_tableOut (tgt := 52) C d_Ro_look_1 (by omega) (by decide) ?_
          refine z_aload_n C d_Ro_look_52 rfl 0 rfl ?_
          refine z_get C iw_Ro 0 rfl rfl 4 (by decide) zw_136 rfl d_Ro_look_53 ?_
          refine z_i2l C d_Ro_look_56 ?_
          subst hf
          exact z_lret C hr d_Ro_look_57
theorem c_Ro_look {l : Launch} {D : va_G} {cI cL : ClassId} {h_this : Nat} {v_a v_b v_c v_d rr : Int64} {v_k x1 : Int32} (hf : f_Ro_look x1 v_a v_b v_c v_d v_k = rr) : zM l y_Ro_look (Cond.code y_Ro_look b_Ro_look 2 (some .long) :: zT) rm_Ro_look D vwCl [(cI, .int), (cL, .long)] [.ref h_this, .int x1] [(h_this, .inr (2, [.long v_a, .long v_b, .long v_c, .long v_d, .int v_k]))] [(h_this, .inr (2, [.long v_a, .long v_b, .long v_c, .long v_d, .int v_k]))] (some (.long rr)) :=
  zM.intro (by decide) rfl (fun _ h => List.mem_cons_of_mem _ h) (Nat.le_of_ble_eq_true rfl) (fun _ _ _ _ _ _ _ C hr _ => k_Ro_look C hr hf)
