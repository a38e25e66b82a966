/-! what is the same wherever the machine stands -/
def zN : List Cond := [(Jvm.Cond.methodLinkNest "PathSums" (15 : Nat) ({ cls := "PathSums$Polynomial", name := "<init>", desc := "()V" } : Jvm.MethodName) "PathSums"), (Jvm.Cond.fieldLinkNest "PathSums" (140 : Nat) "PathSums$Polynomial" "monomials" "I" "PathSums"), (Jvm.Cond.methodLinkNest "PathSums" (22 : Nat) ({ cls := "PathSums$DoneRules", name := "<init>", desc := "()V" } : Jvm.MethodName) "PathSums"), (Jvm.Cond.fieldLinkNest "PathSums" (143 : Nat) "PathSums$DoneRules" "count" "I" "PathSums"), (Jvm.Cond.methodLinkNest "PathSums" (29 : Nat) ({ cls := "PathSums$Ways", name := "<init>", desc := "()V" } : Jvm.MethodName) "PathSums"), (Jvm.Cond.fieldLinkNest "PathSums" (190 : Nat) "PathSums$Ways" "tallies" "[I" "PathSums"), (Jvm.Cond.methodLinkNest "PathSums" (36 : Nat) ({ cls := "PathSums$Root", name := "<init>", desc := "()V" } : Jvm.MethodName) "PathSums"), (Jvm.Cond.methodLinkNest "PathSums$Polynomial" (29 : Nat) ({ cls := "PathSums", name := "has", desc := "(II)Z" } : Jvm.MethodName) "PathSums"), (Jvm.Cond.methodLinkNest "PathSums$Ways" (28 : Nat) ({ cls := "PathSums", name := "has", desc := "(II)Z" } : Jvm.MethodName) "PathSums")]
def tb_TURNS : Nat → Int32 := fun k => match k with
  | 0 => 4
  | 1 => 2
  | 2 => 1
  | 3 => 6
  | _ => 7
def zE (A : Nat → Prop) (U : State) (H : Heap) : Prop := (∀ w ∈ zN, va_Nw w U) ∧ (∃ t : Nat, va_Z "PathSums" "TURNS" "[I" (.ref t) A U H ∧ va_T .int t 5 (fun k => .int (tb_TURNS k)) A U H)
theorem zN_kind : ∀ w ∈ zN, (∃ a i b n d h, w = .fieldLinkNest a i b n d h) ∨ (∃ a i x h, w = .methodLinkNest a i x h) := by
  intro w h
  simp only [zN, List.mem_cons, List.not_mem_nil, or_false] at h
  rcases h with rfl | rfl | rfl | rfl | rfl | rfl | rfl | rfl | rfl <;> first | exact Or.inl ⟨_, _, _, _, _, _, rfl⟩ | exact Or.inr ⟨_, _, _, _, rfl⟩
theorem zN_warm {s U : State} (hW : s.WarmedH U.vm) {w : Cond} (hw : w ∈ zN) (h : va_Nw w s) : va_Nw w U := by
  rcases zN_kind w hw with ⟨a, i, b, n, d, h1, rfl⟩ | ⟨a, i, x, h1, rfl⟩
  · exact va_Nw.warmF hW h
  · exact va_Nw.warmM hW h
theorem zN_same {u U : State} (hv : u.vm = U.vm) {w : Cond} (hw : w ∈ zN) (h : va_Nw w u) : va_Nw w U := by
  rcases zN_kind w hw with ⟨a, i, b, n, d, h1, rfl⟩ | ⟨a, i, x, h1, rfl⟩
  · exact va_Nw.same rfl hv h
  · exact va_Nw.same rfl hv h
theorem zE.warm {A : Nat → Prop} {s U : State} {H : Heap} (hW : s.WarmedH U.vm) (h : zE A s H) : zE A U H := by
  obtain ⟨h1, t, h2, h3⟩ := h
  exact ⟨fun w hw => zN_warm hW hw (h1 w hw), t, va_Z.moved hW.alike h2, va_T.moved hW.alike h3⟩
theorem zE.same {A : Nat → Prop} {u U : State} {H : Heap} (hv : u.vm = U.vm) (h : zE A u H) : zE A U H := by
  obtain ⟨h1, t, h2, h3⟩ := h
  have hal : u.vm.Alike U.vm := by rw [hv]; exact Vm.Alike.refl _
  exact ⟨fun w hw => zN_same hv hw (h1 w hw), t, va_Z.moved hal h2, va_T.moved hal h3⟩
theorem zE.kept {A : Nat → Prop} {U : State} {H H1 : Heap} (h : zE A U H) (hq : ∀ a : Nat, a < H.size → ¬ A a → H1[a]? = H[a]?) : zE A U H1 := by
  obtain ⟨h1, t, h2, h3⟩ := h
  exact ⟨h1, t, va_Z.kept h2 hq, va_T.kept h3 hq⟩
theorem zE.narrow {A B : Nat → Prop} {U : State} {H : Heap} (h : zE A U H) (hAB : ∀ q, B q → A q) : zE B U H := by
  obtain ⟨h1, t, h2, h3⟩ := h
  exact ⟨h1, t, va_Z.narrow h2 hAB, va_T.narrow h3 hAB⟩

/-! The Z layer: a frame with its world, its locals and its stack as lists -/
section ZL
variable {p : Program} {l : Launch} {e : Env} {R : Room} {s : State} {m : MethodId} {args : Array Value} {below : List Frame} {meth : Method} {c : Code} {cells slots : Nat} {Q : State → Prop}
variable {cc : ByteArray} {pc nL : Nat} {D : va_G} {cl : List vw_C} {A : Nat → Prop} {tys : List (ClassId × FieldType)} {ws ws' : va_W} {lv lv' : List (Nat × Value)} {st rest : List Value} {own : String} {as0 : List Nat}
/-- what stays the same all over a method -/
def zC (p : Program) (s : State) (m : MethodId) (args : Array Value) (meth : Method) (c : Code) (cc : ByteArray) (nL : Nat) (own : String) (D : va_G) (cl : List vw_C) (tys : List (ClassId × FieldType)) (A : Nat → Prop) : Prop :=
  p.tables.exec = Jvm.exec ∧ c.code = cc ∧ c.maxLocals = nL ∧ s.vm.findClass own = some m.cls ∧ (∀ w ∈ zT, w.before args s = true) ∧ va_K D cl tys s ∧ (∀ q, s.heap.size ≤ q → A q) ∧ meth.locks = false ∧ zE A s s.heap
/-- the machine at pc, with these locals, this stack, this world, comes to Q -/
def ZW (p : Program) (l : Launch) (e : Env) (R : Room) (s : State) (m : MethodId) (args : Array Value) (below : List Frame) (meth : Method) (c : Code) (nL : Nat) (D : va_G) (cl : List vw_C) (A : Nat → Prop) (cells slots : Nat) (Q : State → Prop) (ws : va_W) (pc : Nat) (lv : List (Nat × Value)) (st : List Value) : Prop :=
  ∀ (H : Heap) (locs : List Loc) (ls : Array Slot), lv_has ls nL lv → va_P D cl ws H → va_D A ws → va_S A s.heap H locs → W p l e R s m args below meth c H locs cells slots Q (F0 m pc ls st)

theorem z_iconst (C : zC p s m args meth c cc nL own D cl tys A) {n : Int} {v : Int32} (hdg : decode cc pc = .ok (.iconst n, 1)) (hv : Int32.ofInt n = v) (k : ZW p l e R s m args below meth c nL D cl A cells slots Q ws (pc + 1) lv (.int v :: st)) : ZW p l e R s m args below meth c nL D cl A cells slots Q ws pc lv st :=
  fun H locs ls h1 h2 h3 h4 => lv_iconst C.1 C.2.1 hdg hv (k H locs ls h1 h2 h3 h4)
theorem z_bipush (C : zC p s m args meth c cc nL own D cl tys A) {n : Int} {v : Int32} (hdg : decode cc pc = .ok (.bipush n, 2)) (hv : (Int8.ofInt n).toInt32 = v) (k : ZW p l e R s m args below meth c nL D cl A cells slots Q ws (pc + 2) lv (.int v :: st)) : ZW p l e R s m args below meth c nL D cl A cells slots Q ws pc lv st :=
  fun H locs ls h1 h2 h3 h4 => lv_bipush C.1 C.2.1 hdg hv (k H locs ls h1 h2 h3 h4)
theorem z_sipush (C : zC p s m args meth c cc nL own D cl tys A) {n : Int} {v : Int32} (hdg : decode cc pc = .ok (.sipush n, 3)) (hv : (Int16.ofInt n).toInt32 = v) (k : ZW p l e R s m args below meth c nL D cl A cells slots Q ws (pc + 3) lv (.int v :: st)) : ZW p l e R s m args below meth c nL D cl A cells slots Q ws pc lv st :=
  fun H locs ls h1 h2 h3 h4 => lv_sipush C.1 C.2.1 hdg hv (k H locs ls h1 h2 h3 h4)
theorem z_lconst (C : zC p s m args meth c cc nL own D cl tys A) {n : Fin 2} {v : Int64} (hdg : decode cc pc = .ok (.lconst n, 1)) (hv : Int64.ofNat (n : Nat) = v) (k : ZW p l e R s m args below meth c nL D cl A cells slots Q ws (pc + 1) lv (.long v :: st)) : ZW p l e R s m args below meth c nL D cl A cells slots Q ws pc lv st :=
  fun H locs ls h1 h2 h3 h4 => lv_lconst C.1 C.2.1 hdg hv (k H locs ls h1 h2 h3 h4)
theorem z_ldc (C : zC p s m args meth c cc nL own D cl tys A) {index : Nat} {v : Int32} (hc : Jvm.Cond.constant own index v ∈ zT) (hdg : decode cc pc = .ok (.ldc index, 2)) (k : ZW p l e R s m args below meth c nL D cl A cells slots Q ws (pc + 2) lv (.int v :: st)) : ZW p l e R s m args below meth c nL D cl A cells slots Q ws pc lv st :=
  fun H locs ls h1 h2 h3 h4 => lv_ldc C.1 C.2.1 C.2.2.2.1 (C.2.2.2.2.1 _ hc) hdg (k H locs ls h1 h2 h3 h4)
theorem z_ldc2 (C : zC p s m args meth c cc nL own D cl tys A) {index : Nat} {v : Int64} (hc : Jvm.Cond.constantLong own index v ∈ zT) (hdg : decode cc pc = .ok (.ldc2_w index, 3)) (k : ZW p l e R s m args below meth c nL D cl A cells slots Q ws (pc + 3) lv (.long v :: st)) : ZW p l e R s m args below meth c nL D cl A cells slots Q ws pc lv st :=
  fun H locs ls h1 h2 h3 h4 => lv_ldc2 C.1 C.2.1 C.2.2.2.1 (C.2.2.2.2.1 _ hc) hdg (k H locs ls h1 h2 h3 h4)
theorem z_iload_n (C : zC p s m args meth c cc nL own D cl tys A) {k : Fin 4} {i : Nat} {x : Int32} (hdg : decode cc pc = .ok (.iload_n k, 1)) (hi : (k : Nat) = i) (q : Nat) (hl : lv[q]? = some (i, .int x)) (kk : ZW p l e R s m args below meth c nL D cl A cells slots Q ws (pc + 1) lv (.int x :: st)) : ZW p l e R s m args below meth c nL D cl A cells slots Q ws pc lv st :=
  fun H locs ls h1 h2 h3 h4 => lv_iload_n C.1 C.2.1 hdg hi (lv_at h1 q hl) (kk H locs ls h1 h2 h3 h4)
theorem z_iload (C : zC p s m args meth c cc nL own D cl tys A) {i : Nat} {x : Int32} (hdg : decode cc pc = .ok (.iload i, 2)) (q : Nat) (hl : lv[q]? = some (i, .int x)) (kk : ZW p l e R s m args below meth c nL D cl A cells slots Q ws (pc + 2) lv (.int x :: st)) : ZW p l e R s m args below meth c nL D cl A cells slots Q ws pc lv st :=
  fun H locs ls h1 h2 h3 h4 => lv_iload C.1 C.2.1 hdg (lv_at h1 q hl) (kk H locs ls h1 h2 h3 h4)
theorem z_istore_n (C : zC p s m args meth c cc nL own D cl tys A) {k : Fin 4} {i : Nat} {x : Int32} (hdg : decode cc pc = .ok (.istore_n k, 1)) (hi : (k : Nat) = i) (hn : i < nL) (hl : (i, Value.int x) :: lv.filter (fun q => !(q.1 == i) && !(q.1 + 1 == i && q.2.category == 2)) = lv') (kk : ZW p l e R s m args below meth c nL D cl A cells slots Q ws (pc + 1) lv' st) : ZW p l e R s m args below meth c nL D cl A cells slots Q ws pc lv (.int x :: st) :=
  fun H locs ls h1 h2 h3 h4 => lv_istore_n C.1 C.2.1 hdg hi h1 hn hl (fun ls' h1' => kk H locs ls' h1' h2 h3 h4)
theorem z_istore (C : zC p s m args meth c cc nL own D cl tys A) {i : Nat} {x : Int32} (hdg : decode cc pc = .ok (.istore i, 2)) (hn : i < nL) (hl : (i, Value.int x) :: lv.filter (fun q => !(q.1 == i) && !(q.1 + 1 == i && q.2.category == 2)) = lv') (kk : ZW p l e R s m args below meth c nL D cl A cells slots Q ws (pc + 2) lv' st) : ZW p l e R s m args below meth c nL D cl A cells slots Q ws pc lv (.int x :: st) :=
  fun H locs ls h1 h2 h3 h4 => lv_istore C.1 C.2.1 hdg h1 hn hl (fun ls' h1' => kk H locs ls' h1' h2 h3 h4)
theorem z_lload_n (C : zC p s m args meth c cc nL own D cl tys A) {k : Fin 4} {i : Nat} {x : Int64} (hdg : decode cc pc = .ok (.lload_n k, 1)) (hi : (k : Nat) = i) (q : Nat) (hl : lv[q]? = some (i, .long x)) (kk : ZW p l e R s m args below meth c nL D cl A cells slots Q ws (pc + 1) lv (.long x :: st)) : ZW p l e R s m args below meth c nL D cl A cells slots Q ws pc lv st :=
  fun H locs ls h1 h2 h3 h4 => lv_lload_n C.1 C.2.1 hdg hi (lv_at h1 q hl) (kk H locs ls h1 h2 h3 h4)
theorem z_lload (C : zC p s m args meth c cc nL own D cl tys A) {i : Nat} {x : Int64} (hdg : decode cc pc = .ok (.lload i, 2)) (q : Nat) (hl : lv[q]? = some (i, .long x)) (kk : ZW p l e R s m args below meth c nL D cl A cells slots Q ws (pc + 2) lv (.long x :: st)) : ZW p l e R s m args below meth c nL D cl A cells slots Q ws pc lv st :=
  fun H locs ls h1 h2 h3 h4 => lv_lload C.1 C.2.1 hdg (lv_at h1 q hl) (kk H locs ls h1 h2 h3 h4)
theorem z_lstore_n (C : zC p s m args meth c cc nL own D cl tys A) {k : Fin 4} {i : Nat} {x : Int64} (hdg : decode cc pc = .ok (.lstore_n k, 1)) (hi : (k : Nat) = i) (hn : i + 1 < nL) (hl : (i, Value.long x) :: lv.filter (fun q => !(q.1 == i) && (!(q.1 == i + 1) && !(q.1 + 1 == i && q.2.category == 2))) = lv') (kk : ZW p l e R s m args below meth c nL D cl A cells slots Q ws (pc + 1) lv' st) : ZW p l e R s m args below meth c nL D cl A cells slots Q ws pc lv (.long x :: st) :=
  fun H locs ls h1 h2 h3 h4 => lv_lstore_n C.1 C.2.1 hdg hi h1 hn hl (fun ls' h1' => kk H locs ls' h1' h2 h3 h4)
theorem z_lstore (C : zC p s m args meth c cc nL own D cl tys A) {i : Nat} {x : Int64} (hdg : decode cc pc = .ok (.lstore i, 2)) (hn : i + 1 < nL) (hl : (i, Value.long x) :: lv.filter (fun q => !(q.1 == i) && (!(q.1 == i + 1) && !(q.1 + 1 == i && q.2.category == 2))) = lv') (kk : ZW p l e R s m args below meth c nL D cl A cells slots Q ws (pc + 2) lv' st) : ZW p l e R s m args below meth c nL D cl A cells slots Q ws pc lv (.long x :: st) :=
  fun H locs ls h1 h2 h3 h4 => lv_lstore C.1 C.2.1 hdg h1 hn hl (fun ls' h1' => kk H locs ls' h1' h2 h3 h4)
theorem z_aload_n (C : zC p s m args meth c cc nL own D cl tys A) {k : Fin 4} {i : Nat} {x : Nat} (hdg : decode cc pc = .ok (.aload_n k, 1)) (hi : (k : Nat) = i) (q : Nat) (hl : lv[q]? = some (i, .ref x)) (kk : ZW p l e R s m args below meth c nL D cl A cells slots Q ws (pc + 1) lv (.ref x :: st)) : ZW p l e R s m args below meth c nL D cl A cells slots Q ws pc lv st :=
  fun H locs ls h1 h2 h3 h4 => lv_aload_n C.1 C.2.1 hdg hi (lv_at h1 q hl) (kk H locs ls h1 h2 h3 h4)
theorem z_aload (C : zC p s m args meth c cc nL own D cl tys A) {i : Nat} {x : Nat} (hdg : decode cc pc = .ok (.aload i, 2)) (q : Nat) (hl : lv[q]? = some (i, .ref x)) (kk : ZW p l e R s m args below meth c nL D cl A cells slots Q ws (pc + 2) lv (.ref x :: st)) : ZW p l e R s m args below meth c nL D cl A cells slots Q ws pc lv st :=
  fun H locs ls h1 h2 h3 h4 => lv_aload C.1 C.2.1 hdg (lv_at h1 q hl) (kk H locs ls h1 h2 h3 h4)
theorem z_astore_n (C : zC p s m args meth c cc nL own D cl tys A) {k : Fin 4} {i : Nat} {x : Nat} (hdg : decode cc pc = .ok (.astore_n k, 1)) (hi : (k : Nat) = i) (hn : i < nL) (hl : (i, Value.ref x) :: lv.filter (fun q => !(q.1 == i) && !(q.1 + 1 == i && q.2.category == 2)) = lv') (kk : ZW p l e R s m args below meth c nL D cl A cells slots Q ws (pc + 1) lv' st) : ZW p l e R s m args below meth c nL D cl A cells slots Q ws pc lv (.ref x :: st) :=
  fun H locs ls h1 h2 h3 h4 => lv_astore_n C.1 C.2.1 hdg hi h1 hn hl (fun ls' h1' => kk H locs ls' h1' h2 h3 h4)
theorem z_astore (C : zC p s m args meth c cc nL own D cl tys A) {i : Nat} {x : Nat} (hdg : decode cc pc = .ok (.astore i, 2)) (hn : i < nL) (hl : (i, Value.ref x) :: lv.filter (fun q => !(q.1 == i) && !(q.1 + 1 == i && q.2.category == 2)) = lv') (kk : ZW p l e R s m args below meth c nL D cl A cells slots Q ws (pc + 2) lv' st) : ZW p l e R s m args below meth c nL D cl A cells slots Q ws pc lv (.ref x :: st) :=
  fun H locs ls h1 h2 h3 h4 => lv_astore C.1 C.2.1 hdg h1 hn hl (fun ls' h1' => kk H locs ls' h1' h2 h3 h4)
theorem z_iinc (C : zC p s m args meth c cc nL own D cl tys A) {i k : Nat} {n : Int} {x v : Int32} (hdg : decode cc pc = .ok (.iinc i n, 3)) (hk : lv[k]? = some (i, .int x)) (hv : x + Int32.ofInt n = v) (hn : i < nL) (hl : (i, Value.int v) :: lv.filter (fun q => !(q.1 == i) && !(q.1 + 1 == i && q.2.category == 2)) = lv') (kk : ZW p l e R s m args below meth c nL D cl A cells slots Q ws (pc + 3) lv' st) : ZW p l e R s m args below meth c nL D cl A cells slots Q ws pc lv st :=
  fun H locs ls h1 h2 h3 h4 => lv_iinc C.1 C.2.1 hdg h1 hk hv hn hl (fun ls' h1' => kk H locs ls' h1' h2 h3 h4)
theorem z_iadd (C : zC p s m args meth c cc nL own D cl tys A) {x y : Int32} (hdg : decode cc pc = .ok (.iadd, 1)) (k : ZW p l e R s m args below meth c nL D cl A cells slots Q ws (pc + 1) lv (.int (x + y) :: st)) : ZW p l e R s m args below meth c nL D cl A cells slots Q ws pc lv (.int y :: .int x :: st) :=
  fun H locs ls h1 h2 h3 h4 => lv_iadd C.1 C.2.1 hdg (k H locs ls h1 h2 h3 h4)
theorem z_isub (C : zC p s m args meth c cc nL own D cl tys A) {x y : Int32} (hdg : decode cc pc = .ok (.isub, 1)) (k : ZW p l e R s m args below meth c nL D cl A cells slots Q ws (pc + 1) lv (.int (x - y) :: st)) : ZW p l e R s m args below meth c nL D cl A cells slots Q ws pc lv (.int y :: .int x :: st) :=
  fun H locs ls h1 h2 h3 h4 => lv_isub C.1 C.2.1 hdg (k H locs ls h1 h2 h3 h4)
theorem z_imul (C : zC p s m args meth c cc nL own D cl tys A) {x y : Int32} (hdg : decode cc pc = .ok (.imul, 1)) (k : ZW p l e R s m args below meth c nL D cl A cells slots Q ws (pc + 1) lv (.int (x * y) :: st)) : ZW p l e R s m args below meth c nL D cl A cells slots Q ws pc lv (.int y :: .int x :: st) :=
  fun H locs ls h1 h2 h3 h4 => lv_imul C.1 C.2.1 hdg (k H locs ls h1 h2 h3 h4)
theorem z_iand (C : zC p s m args meth c cc nL own D cl tys A) {x y : Int32} (hdg : decode cc pc = .ok (.iand, 1)) (k : ZW p l e R s m args below meth c nL D cl A cells slots Q ws (pc + 1) lv (.int (x &&& y) :: st)) : ZW p l e R s m args below meth c nL D cl A cells slots Q ws pc lv (.int y :: .int x :: st) :=
  fun H locs ls h1 h2 h3 h4 => lv_iand C.1 C.2.1 hdg (k H locs ls h1 h2 h3 h4)
theorem z_ior (C : zC p s m args meth c cc nL own D cl tys A) {x y : Int32} (hdg : decode cc pc = .ok (.ior, 1)) (k : ZW p l e R s m args below meth c nL D cl A cells slots Q ws (pc + 1) lv (.int (x ||| y) :: st)) : ZW p l e R s m args below meth c nL D cl A cells slots Q ws pc lv (.int y :: .int x :: st) :=
  fun H locs ls h1 h2 h3 h4 => lv_ior C.1 C.2.1 hdg (k H locs ls h1 h2 h3 h4)
theorem z_ixor (C : zC p s m args meth c cc nL own D cl tys A) {x y : Int32} (hdg : decode cc pc = .ok (.ixor, 1)) (k : ZW p l e R s m args below meth c nL D cl A cells slots Q ws (pc + 1) lv (.int (x ^^^ y) :: st)) : ZW p l e R s m args below meth c nL D cl A cells slots Q ws pc lv (.int y :: .int x :: st) :=
  fun H locs ls h1 h2 h3 h4 => lv_ixor C.1 C.2.1 hdg (k H locs ls h1 h2 h3 h4)
theorem z_idiv (C : zC p s m args meth c cc nL own D cl tys A) {x y : Int32} (hdg : decode cc pc = .ok (.idiv, 1)) (hne : ¬ y = 0) (k : ZW p l e R s m args below meth c nL D cl A cells slots Q ws (pc + 1) lv (.int (x / y) :: st)) : ZW p l e R s m args below meth c nL D cl A cells slots Q ws pc lv (.int y :: .int x :: st) :=
  fun H locs ls h1 h2 h3 h4 => lv_idiv C.1 C.2.1 hdg hne (k H locs ls h1 h2 h3 h4)
theorem z_irem (C : zC p s m args meth c cc nL own D cl tys A) {x y : Int32} (hdg : decode cc pc = .ok (.irem, 1)) (hne : ¬ y = 0) (k : ZW p l e R s m args below meth c nL D cl A cells slots Q ws (pc + 1) lv (.int (x - x / y * y) :: st)) : ZW p l e R s m args below meth c nL D cl A cells slots Q ws pc lv (.int y :: .int x :: st) :=
  fun H locs ls h1 h2 h3 h4 => lv_irem C.1 C.2.1 hdg hne (k H locs ls h1 h2 h3 h4)
theorem z_ineg (C : zC p s m args meth c cc nL own D cl tys A) {x : Int32} (hdg : decode cc pc = .ok (.ineg, 1)) (k : ZW p l e R s m args below meth c nL D cl A cells slots Q ws (pc + 1) lv (.int (-x) :: st)) : ZW p l e R s m args below meth c nL D cl A cells slots Q ws pc lv (.int x :: st) :=
  fun H locs ls h1 h2 h3 h4 => lv_ineg C.1 C.2.1 hdg (k H locs ls h1 h2 h3 h4)
theorem z_ladd (C : zC p s m args meth c cc nL own D cl tys A) {x y : Int64} (hdg : decode cc pc = .ok (.ladd, 1)) (k : ZW p l e R s m args below meth c nL D cl A cells slots Q ws (pc + 1) lv (.long (x + y) :: st)) : ZW p l e R s m args below meth c nL D cl A cells slots Q ws pc lv (.long y :: .long x :: st) :=
  fun H locs ls h1 h2 h3 h4 => lv_ladd C.1 C.2.1 hdg (k H locs ls h1 h2 h3 h4)
theorem z_lsub (C : zC p s m args meth c cc nL own D cl tys A) {x y : Int64} (hdg : decode cc pc = .ok (.lsub, 1)) (k : ZW p l e R s m args below meth c nL D cl A cells slots Q ws (pc + 1) lv (.long (x - y) :: st)) : ZW p l e R s m args below meth c nL D cl A cells slots Q ws pc lv (.long y :: .long x :: st) :=
  fun H locs ls h1 h2 h3 h4 => lv_lsub C.1 C.2.1 hdg (k H locs ls h1 h2 h3 h4)
theorem z_lmul (C : zC p s m args meth c cc nL own D cl tys A) {x y : Int64} (hdg : decode cc pc = .ok (.lmul, 1)) (k : ZW p l e R s m args below meth c nL D cl A cells slots Q ws (pc + 1) lv (.long (x * y) :: st)) : ZW p l e R s m args below meth c nL D cl A cells slots Q ws pc lv (.long y :: .long x :: st) :=
  fun H locs ls h1 h2 h3 h4 => lv_lmul C.1 C.2.1 hdg (k H locs ls h1 h2 h3 h4)
theorem z_land (C : zC p s m args meth c cc nL own D cl tys A) {x y : Int64} (hdg : decode cc pc = .ok (.land, 1)) (k : ZW p l e R s m args below meth c nL D cl A cells slots Q ws (pc + 1) lv (.long (x &&& y) :: st)) : ZW p l e R s m args below meth c nL D cl A cells slots Q ws pc lv (.long y :: .long x :: st) :=
  fun H locs ls h1 h2 h3 h4 => lv_land C.1 C.2.1 hdg (k H locs ls h1 h2 h3 h4)
theorem z_lor (C : zC p s m args meth c cc nL own D cl tys A) {x y : Int64} (hdg : decode cc pc = .ok (.lor, 1)) (k : ZW p l e R s m args below meth c nL D cl A cells slots Q ws (pc + 1) lv (.long (x ||| y) :: st)) : ZW p l e R s m args below meth c nL D cl A cells slots Q ws pc lv (.long y :: .long x :: st) :=
  fun H locs ls h1 h2 h3 h4 => lv_lor C.1 C.2.1 hdg (k H locs ls h1 h2 h3 h4)
theorem z_lxor (C : zC p s m args meth c cc nL own D cl tys A) {x y : Int64} (hdg : decode cc pc = .ok (.lxor, 1)) (k : ZW p l e R s m args below meth c nL D cl A cells slots Q ws (pc + 1) lv (.long (x ^^^ y) :: st)) : ZW p l e R s m args below meth c nL D cl A cells slots Q ws pc lv (.long y :: .long x :: st) :=
  fun H locs ls h1 h2 h3 h4 => lv_lxor C.1 C.2.1 hdg (k H locs ls h1 h2 h3 h4)
theorem z_ldiv (C : zC p s m args meth c cc nL own D cl tys A) {x y : Int64} (hdg : decode cc pc = .ok (.ldiv, 1)) (hne : ¬ y = 0) (k : ZW p l e R s m args below meth c nL D cl A cells slots Q ws (pc + 1) lv (.long (x / y) :: st)) : ZW p l e R s m args below meth c nL D cl A cells slots Q ws pc lv (.long y :: .long x :: st) :=
  fun H locs ls h1 h2 h3 h4 => lv_ldiv C.1 C.2.1 hdg hne (k H locs ls h1 h2 h3 h4)
theorem z_lrem (C : zC p s m args meth c cc nL own D cl tys A) {x y : Int64} (hdg : decode cc pc = .ok (.lrem, 1)) (hne : ¬ y = 0) (k : ZW p l e R s m args below meth c nL D cl A cells slots Q ws (pc + 1) lv (.long (x - x / y * y) :: st)) : ZW p l e R s m args below meth c nL D cl A cells slots Q ws pc lv (.long y :: .long x :: st) :=
  fun H locs ls h1 h2 h3 h4 => lv_lrem C.1 C.2.1 hdg hne (k H locs ls h1 h2 h3 h4)
theorem z_lneg (C : zC p s m args meth c cc nL own D cl tys A) {x : Int64} (hdg : decode cc pc = .ok (.lneg, 1)) (k : ZW p l e R s m args below meth c nL D cl A cells slots Q ws (pc + 1) lv (.long (-x) :: st)) : ZW p l e R s m args below meth c nL D cl A cells slots Q ws pc lv (.long x :: st) :=
  fun H locs ls h1 h2 h3 h4 => lv_lneg C.1 C.2.1 hdg (k H locs ls h1 h2 h3 h4)
theorem z_ishl (C : zC p s m args meth c cc nL own D cl tys A) {x y : Int32} (hdg : decode cc pc = .ok (.ishl, 1)) (k : ZW p l e R s m args below meth c nL D cl A cells slots Q ws (pc + 1) lv (.int (x <<< (y &&& 31)) :: st)) : ZW p l e R s m args below meth c nL D cl A cells slots Q ws pc lv (.int y :: .int x :: st) :=
  fun H locs ls h1 h2 h3 h4 => lv_ishl C.1 C.2.1 hdg (k H locs ls h1 h2 h3 h4)
theorem z_ishr (C : zC p s m args meth c cc nL own D cl tys A) {x y : Int32} (hdg : decode cc pc = .ok (.ishr, 1)) (k : ZW p l e R s m args below meth c nL D cl A cells slots Q ws (pc + 1) lv (.int (x >>> (y &&& 31)) :: st)) : ZW p l e R s m args below meth c nL D cl A cells slots Q ws pc lv (.int y :: .int x :: st) :=
  fun H locs ls h1 h2 h3 h4 => lv_ishr C.1 C.2.1 hdg (k H locs ls h1 h2 h3 h4)
/-- the unsigned shift, as a name -/
def zushr (x y : Int32) : Int32 := (x.toUInt32 >>> (y.toUInt32 &&& Int32.toUInt32 31)).toInt32
theorem z_iushr (C : zC p s m args meth c cc nL own D cl tys A) {x y : Int32} (hdg : decode cc pc = .ok (.iushr, 1)) (k : ZW p l e R s m args below meth c nL D cl A cells slots Q ws (pc + 1) lv (.int (zushr x y) :: st)) : ZW p l e R s m args below meth c nL D cl A cells slots Q ws pc lv (.int y :: .int x :: st) :=
  fun H locs ls h1 h2 h3 h4 => lv_iushr C.1 C.2.1 hdg rfl (k H locs ls h1 h2 h3 h4)
theorem z_i2l (C : zC p s m args meth c cc nL own D cl tys A) {x : Int32} (hdg : decode cc pc = .ok (.i2l, 1)) (k : ZW p l e R s m args below meth c nL D cl A cells slots Q ws (pc + 1) lv (.long x.toInt64 :: st)) : ZW p l e R s m args below meth c nL D cl A cells slots Q ws pc lv (.int x :: st) :=
  fun H locs ls h1 h2 h3 h4 => lv_i2l C.1 C.2.1 hdg rfl (k H locs ls h1 h2 h3 h4)
theorem z_l2i (C : zC p s m args meth c cc nL own D cl tys A) {x : Int64} (hdg : decode cc pc = .ok (.l2i, 1)) (k : ZW p l e R s m args below meth c nL D cl A cells slots Q ws (pc + 1) lv (.int x.toInt32 :: st)) : ZW p l e R s m args below meth c nL D cl A cells slots Q ws pc lv (.long x :: st) :=
  fun H locs ls h1 h2 h3 h4 => lv_l2i C.1 C.2.1 hdg rfl (k H locs ls h1 h2 h3 h4)
theorem z_lcmp (C : zC p s m args meth c cc nL own D cl tys A) {x y : Int64} (hdg : decode cc pc = .ok (.lcmp, 1)) (k : ZW p l e R s m args below meth c nL D cl A cells slots Q ws (pc + 1) lv (.int (lg_cmp x y) :: st)) : ZW p l e R s m args below meth c nL D cl A cells slots Q ws pc lv (.long y :: .long x :: st) :=
  fun H locs ls h1 h2 h3 h4 => W.lcmp C.1 C.2.1 hdg (k H locs ls h1 h2 h3 h4)
theorem z_dup (C : zC p s m args meth c cc nL own D cl tys A) {v : Value} (hdg : decode cc pc = .ok (.dup, 1)) (hv : v.category = 1) (k : ZW p l e R s m args below meth c nL D cl A cells slots Q ws (pc + 1) lv (v :: v :: st)) : ZW p l e R s m args below meth c nL D cl A cells slots Q ws pc lv (v :: st) :=
  fun H locs ls h1 h2 h3 h4 => lv_dup C.1 C.2.1 hdg hv (k H locs ls h1 h2 h3 h4)
theorem z_pop (C : zC p s m args meth c cc nL own D cl tys A) {v : Value} (hdg : decode cc pc = .ok (.pop, 1)) (hv : v.category = 1) (k : ZW p l e R s m args below meth c nL D cl A cells slots Q ws (pc + 1) lv (st)) : ZW p l e R s m args below meth c nL D cl A cells slots Q ws pc lv (v :: st) :=
  fun H locs ls h1 h2 h3 h4 => lv_pop C.1 C.2.1 hdg hv (k H locs ls h1 h2 h3 h4)
theorem z_dup_x1 (C : zC p s m args meth c cc nL own D cl tys A) {v u : Value} (hdg : decode cc pc = .ok (.dup_x1, 1)) (hv : v.category = 1) (hu : u.category = 1) (k : ZW p l e R s m args below meth c nL D cl A cells slots Q ws (pc + 1) lv (v :: u :: v :: st)) : ZW p l e R s m args below meth c nL D cl A cells slots Q ws pc lv (v :: u :: st) :=
  fun H locs ls h1 h2 h3 h4 => lv_dup_x1 C.1 C.2.1 hdg hv hu (k H locs ls h1 h2 h3 h4)
theorem z_dup_x2 (C : zC p s m args meth c cc nL own D cl tys A) {v u t : Value} (hdg : decode cc pc = .ok (.dup_x2, 1)) (hv : v.category = 1) (hu : u.category = 1) (ht : t.category = 1) (k : ZW p l e R s m args below meth c nL D cl A cells slots Q ws (pc + 1) lv (v :: u :: t :: v :: st)) : ZW p l e R s m args below meth c nL D cl A cells slots Q ws pc lv (v :: u :: t :: st) :=
  fun H locs ls h1 h2 h3 h4 => lv_dup_x2 C.1 C.2.1 hdg hv hu ht (k H locs ls h1 h2 h3 h4)
theorem z_dup2_11 (C : zC p s m args meth c cc nL own D cl tys A) {v u : Value} (hdg : decode cc pc = .ok (.dup2, 1)) (hv : v.category = 1) (hu : u.category = 1) (k : ZW p l e R s m args below meth c nL D cl A cells slots Q ws (pc + 1) lv (v :: u :: v :: u :: st)) : ZW p l e R s m args below meth c nL D cl A cells slots Q ws pc lv (v :: u :: st) :=
  fun H locs ls h1 h2 h3 h4 => lv_dup2_11 C.1 C.2.1 hdg hv hu (k H locs ls h1 h2 h3 h4)
theorem z_dup2_2 (C : zC p s m args meth c cc nL own D cl tys A) {v : Value} (hdg : decode cc pc = .ok (.dup2, 1)) (hv : v.category = 2) (k : ZW p l e R s m args below meth c nL D cl A cells slots Q ws (pc + 1) lv (v :: v :: st)) : ZW p l e R s m args below meth c nL D cl A cells slots Q ws pc lv (v :: st) :=
  fun H locs ls h1 h2 h3 h4 => lv_dup2_2 C.1 C.2.1 hdg hv (k H locs ls h1 h2 h3 h4)
theorem z_goto (C : zC p s m args meth c cc nL own D cl tys A) {off : Int} {tgt : Nat} (hdg : decode cc pc = .ok (.goto off, 3)) (ht : (pc : Int) + off = (tgt : Int)) (k : ZW p l e R s m args below meth c nL D cl A cells slots Q ws tgt lv st) : ZW p l e R s m args below meth c nL D cl A cells slots Q ws pc lv st :=
  fun H locs ls h1 h2 h3 h4 => lv_goto C.1 C.2.1 hdg ht (k H locs ls h1 h2 h3 h4)
theorem z_if_eq (C : zC p s m args meth c cc nL own D cl tys A) {x : Int32} {off : Int} {tgt : Nat} (hdg : decode cc pc = .ok (.ifCond .eq off, 3)) (ht : (pc : Int) + off = (tgt : Int)) (kt : x = 0 → ZW p l e R s m args below meth c nL D cl A cells slots Q ws tgt lv st) (kf : ¬ x = 0 → ZW p l e R s m args below meth c nL D cl A cells slots Q ws (pc + 3) lv st) : ZW p l e R s m args below meth c nL D cl A cells slots Q ws pc lv (.int x :: st) :=
  fun H locs ls h1 h2 h3 h4 => lv_if_eq C.1 C.2.1 hdg ht (fun q => kt q H locs ls h1 h2 h3 h4) (fun q => kf q H locs ls h1 h2 h3 h4)
theorem z_icmp_eq (C : zC p s m args meth c cc nL own D cl tys A) {x y : Int32} {off : Int} {tgt : Nat} (hdg : decode cc pc = .ok (.if_icmp .eq off, 3)) (ht : (pc : Int) + off = (tgt : Int)) (kt : x = y → ZW p l e R s m args below meth c nL D cl A cells slots Q ws tgt lv st) (kf : ¬ x = y → ZW p l e R s m args below meth c nL D cl A cells slots Q ws (pc + 3) lv st) : ZW p l e R s m args below meth c nL D cl A cells slots Q ws pc lv (.int y :: .int x :: st) :=
  fun H locs ls h1 h2 h3 h4 => lv_icmp_eq C.1 C.2.1 hdg ht (fun q => kt q H locs ls h1 h2 h3 h4) (fun q => kf q H locs ls h1 h2 h3 h4)
theorem z_if_ne (C : zC p s m args meth c cc nL own D cl tys A) {x : Int32} {off : Int} {tgt : Nat} (hdg : decode cc pc = .ok (.ifCond .ne off, 3)) (ht : (pc : Int) + off = (tgt : Int)) (kt : ¬ x = 0 → ZW p l e R s m args below meth c nL D cl A cells slots Q ws tgt lv st) (kf : x = 0 → ZW p l e R s m args below meth c nL D cl A cells slots Q ws (pc + 3) lv st) : ZW p l e R s m args below meth c nL D cl A cells slots Q ws pc lv (.int x :: st) :=
  fun H locs ls h1 h2 h3 h4 => lv_if_ne C.1 C.2.1 hdg ht (fun q => kt q H locs ls h1 h2 h3 h4) (fun q => kf q H locs ls h1 h2 h3 h4)
theorem z_icmp_ne (C : zC p s m args meth c cc nL own D cl tys A) {x y : Int32} {off : Int} {tgt : Nat} (hdg : decode cc pc = .ok (.if_icmp .ne off, 3)) (ht : (pc : Int) + off = (tgt : Int)) (kt : ¬ x = y → ZW p l e R s m args below meth c nL D cl A cells slots Q ws tgt lv st) (kf : x = y → ZW p l e R s m args below meth c nL D cl A cells slots Q ws (pc + 3) lv st) : ZW p l e R s m args below meth c nL D cl A cells slots Q ws pc lv (.int y :: .int x :: st) :=
  fun H locs ls h1 h2 h3 h4 => lv_icmp_ne C.1 C.2.1 hdg ht (fun q => kt q H locs ls h1 h2 h3 h4) (fun q => kf q H locs ls h1 h2 h3 h4)
theorem z_if_lt (C : zC p s m args meth c cc nL own D cl tys A) {x : Int32} {off : Int} {tgt : Nat} (hdg : decode cc pc = .ok (.ifCond .lt off, 3)) (ht : (pc : Int) + off = (tgt : Int)) (kt : x < 0 → ZW p l e R s m args below meth c nL D cl A cells slots Q ws tgt lv st) (kf : ¬ x < 0 → ZW p l e R s m args below meth c nL D cl A cells slots Q ws (pc + 3) lv st) : ZW p l e R s m args below meth c nL D cl A cells slots Q ws pc lv (.int x :: st) :=
  fun H locs ls h1 h2 h3 h4 => lv_if_lt C.1 C.2.1 hdg ht (fun q => kt q H locs ls h1 h2 h3 h4) (fun q => kf q H locs ls h1 h2 h3 h4)
theorem z_icmp_lt (C : zC p s m args meth c cc nL own D cl tys A) {x y : Int32} {off : Int} {tgt : Nat} (hdg : decode cc pc = .ok (.if_icmp .lt off, 3)) (ht : (pc : Int) + off = (tgt : Int)) (kt : x < y → ZW p l e R s m args below meth c nL D cl A cells slots Q ws tgt lv st) (kf : ¬ x < y → ZW p l e R s m args below meth c nL D cl A cells slots Q ws (pc + 3) lv st) : ZW p l e R s m args below meth c nL D cl A cells slots Q ws pc lv (.int y :: .int x :: st) :=
  fun H locs ls h1 h2 h3 h4 => lv_icmp_lt C.1 C.2.1 hdg ht (fun q => kt q H locs ls h1 h2 h3 h4) (fun q => kf q H locs ls h1 h2 h3 h4)
theorem z_if_ge (C : zC p s m args meth c cc nL own D cl tys A) {x : Int32} {off : Int} {tgt : Nat} (hdg : decode cc pc = .ok (.ifCond .ge off, 3)) (ht : (pc : Int) + off = (tgt : Int)) (kt : 0 ≤ x → ZW p l e R s m args below meth c nL D cl A cells slots Q ws tgt lv st) (kf : ¬ 0 ≤ x → ZW p l e R s m args below meth c nL D cl A cells slots Q ws (pc + 3) lv st) : ZW p l e R s m args below meth c nL D cl A cells slots Q ws pc lv (.int x :: st) :=
  fun H locs ls h1 h2 h3 h4 => lv_if_ge C.1 C.2.1 hdg ht (fun q => kt q H locs ls h1 h2 h3 h4) (fun q => kf q H locs ls h1 h2 h3 h4)
theorem z_icmp_ge (C : zC p s m args meth c cc nL own D cl tys A) {x y : Int32} {off : Int} {tgt : Nat} (hdg : decode cc pc = .ok (.if_icmp .ge off, 3)) (ht : (pc : Int) + off = (tgt : Int)) (kt : y ≤ x → ZW p l e R s m args below meth c nL D cl A cells slots Q ws tgt lv st) (kf : ¬ y ≤ x → ZW p l e R s m args below meth c nL D cl A cells slots Q ws (pc + 3) lv st) : ZW p l e R s m args below meth c nL D cl A cells slots Q ws pc lv (.int y :: .int x :: st) :=
  fun H locs ls h1 h2 h3 h4 => lv_icmp_ge C.1 C.2.1 hdg ht (fun q => kt q H locs ls h1 h2 h3 h4) (fun q => kf q H locs ls h1 h2 h3 h4)
theorem z_if_gt (C : zC p s m args meth c cc nL own D cl tys A) {x : Int32} {off : Int} {tgt : Nat} (hdg : decode cc pc = .ok (.ifCond .gt off, 3)) (ht : (pc : Int) + off = (tgt : Int)) (kt : 0 < x → ZW p l e R s m args below meth c nL D cl A cells slots Q ws tgt lv st) (kf : ¬ 0 < x → ZW p l e R s m args below meth c nL D cl A cells slots Q ws (pc + 3) lv st) : ZW p l e R s m args below meth c nL D cl A cells slots Q ws pc lv (.int x :: st) :=
  fun H locs ls h1 h2 h3 h4 => lv_if_gt C.1 C.2.1 hdg ht (fun q => kt q H locs ls h1 h2 h3 h4) (fun q => kf q H locs ls h1 h2 h3 h4)
theorem z_icmp_gt (C : zC p s m args meth c cc nL own D cl tys A) {x y : Int32} {off : Int} {tgt : Nat} (hdg : decode cc pc = .ok (.if_icmp .gt off, 3)) (ht : (pc : Int) + off = (tgt : Int)) (kt : y < x → ZW p l e R s m args below meth c nL D cl A cells slots Q ws tgt lv st) (kf : ¬ y < x → ZW p l e R s m args below meth c nL D cl A cells slots Q ws (pc + 3) lv st) : ZW p l e R s m args below meth c nL D cl A cells slots Q ws pc lv (.int y :: .int x :: st) :=
  fun H locs ls h1 h2 h3 h4 => lv_icmp_gt C.1 C.2.1 hdg ht (fun q => kt q H locs ls h1 h2 h3 h4) (fun q => kf q H locs ls h1 h2 h3 h4)
theorem z_if_le (C : zC p s m args meth c cc nL own D cl tys A) {x : Int32} {off : Int} {tgt : Nat} (hdg : decode cc pc = .ok (.ifCond .le off, 3)) (ht : (pc : Int) + off = (tgt : Int)) (kt : x ≤ 0 → ZW p l e R s m args below meth c nL D cl A cells slots Q ws tgt lv st) (kf : ¬ x ≤ 0 → ZW p l e R s m args below meth c nL D cl A cells slots Q ws (pc + 3) lv st) : ZW p l e R s m args below meth c nL D cl A cells slots Q ws pc lv (.int x :: st) :=
  fun H locs ls h1 h2 h3 h4 => lv_if_le C.1 C.2.1 hdg ht (fun q => kt q H locs ls h1 h2 h3 h4) (fun q => kf q H locs ls h1 h2 h3 h4)
theorem z_icmp_le (C : zC p s m args meth c cc nL own D cl tys A) {x y : Int32} {off : Int} {tgt : Nat} (hdg : decode cc pc = .ok (.if_icmp .le off, 3)) (ht : (pc : Int) + off = (tgt : Int)) (kt : x ≤ y → ZW p l e R s m args below meth c nL D cl A cells slots Q ws tgt lv st) (kf : ¬ x ≤ y → ZW p l e R s m args below meth c nL D cl A cells slots Q ws (pc + 3) lv st) : ZW p l e R s m args below meth c nL D cl A cells slots Q ws pc lv (.int y :: .int x :: st) :=
  fun H locs ls h1 h2 h3 h4 => lv_icmp_le C.1 C.2.1 hdg ht (fun q => kt q H locs ls h1 h2 h3 h4) (fun q => kf q H locs ls h1 h2 h3 h4)
theorem z_topi {x : Int32} (k : ∀ y : Int32, y = x → ZW p l e R s m args below meth c nL D cl A cells slots Q ws pc lv (.int y :: st)) : ZW p l e R s m args below meth c nL D cl A cells slots Q ws pc lv (.int x :: st) := k x rfl
theorem z_topl {x : Int64} (k : ∀ y : Int64, y = x → ZW p l e R s m args below meth c nL D cl A cells slots Q ws pc lv (.long y :: st)) : ZW p l e R s m args below meth c nL D cl A cells slots Q ws pc lv (.long x :: st) := k x rfl
/-- fewer locals, or in another order -/
theorem z_lv (ks : List Nat) (hl : lv_pick lv ks = lv') (k : ZW p l e R s m args below meth c nL D cl A cells slots Q ws pc lv' st) : ZW p l e R s m args below meth c nL D cl A cells slots Q ws pc lv st :=
  fun H locs ls h1 h2 h3 h4 => k H locs ls (lv_sub h1 ks hl) h2 h3 h4
theorem z_get (C : zC p s m args meth c cc nL own D cl tys A) {Cn : String} {T : u_T} {N ci index a : Nat} {fs : List Value} (hin : ∀ w ∈ u_ws Cn T N, w ∈ zT) (q0 : Nat) (he : ws[q0]? = some (a, .inr (ci, fs))) (hc : cl[ci]? = some (Cn, T, N)) (k : Nat) (hk : k < N) (hlink : Cond.fieldLink own index (T k).1 (T k).2.1 (T k).2.2.1 ∈ zT) {v : Value} (hv : fs[k]? = some v) (hdg : decode cc pc = .ok (.getfield index, 3))
    (kk : ZW p l e R s m args below meth c nL D cl A cells slots Q ws (pc + 3) lv (v :: st)) : ZW p l e R s m args below meth c nL D cl A cells slots Q ws pc lv (.ref a :: st) :=
  fun H locs ls h1 h2 h3 h4 => va_get C.1 C.2.1 C.2.2.2.2.1 hin C.2.2.2.1 C.2.2.2.2.2.1 h2 q0 he hc k hk (C.2.2.2.2.1 _ hlink) (fun _ h => h) hv hdg (kk H locs ls h1 h2 h3 h4)
theorem z_getN (C : zC p s m args meth c cc nL own D cl tys A) {Cn host : String} {T : u_T} {N ci index a : Nat} {fs : List Value} (hin : ∀ w ∈ u_ws Cn T N, w ∈ zT) (q0 : Nat) (he : ws[q0]? = some (a, .inr (ci, fs))) (hc : cl[ci]? = some (Cn, T, N)) (k : Nat) (hk : k < N) (hlink : va_Nw (Cond.fieldLinkNest own index (T k).1 (T k).2.1 (T k).2.2.1 host) s) {v : Value} (hv : fs[k]? = some v) (hdg : decode cc pc = .ok (.getfield index, 3))
    (kk : ZW p l e R s m args below meth c nL D cl A cells slots Q ws (pc + 3) lv (v :: st)) : ZW p l e R s m args below meth c nL D cl A cells slots Q ws pc lv (.ref a :: st) :=
  fun H locs ls h1 h2 h3 h4 => va_getN C.1 C.2.1 C.2.2.2.2.1 hin C.2.2.2.1 C.2.2.2.2.2.1 h2 q0 he hc k hk (va_Nw.use rfl hlink) (fun _ h => h) hv hdg (kk H locs ls h1 h2 h3 h4)
theorem z_put (C : zC p s m args meth c cc nL own D cl tys A) {Cn : String} {T : u_T} {N ci index a : Nat} {fs : List Value} (hin : ∀ w ∈ u_ws Cn T N, w ∈ zT) (ty0 : Nat → FieldType) (hty : ∀ k, k < N → parseFieldDescriptor (T k).2.2.1 = some (ty0 k)) (hnm : ∀ a, a < N → ∀ b, b < N → a ≠ b → (T a).2.1 ≠ (T b).2.1) (q0 : Nat) (he : ws[q0]? = some (a, .inr (ci, fs))) (hc : cl[ci]? = some (Cn, T, N)) (k : Nat) (hk : k < N) (hlink : Cond.fieldLink own index (T k).1 (T k).2.1 (T k).2.2.1 ∈ zT) (hfin : (T k).2.2.2 = false) {ty : FieldType} {v : Value} (hd : ty0 k = ty) (hn : narrow ty v = v) (hfit : fits ty v = true) (hl : k < fs.length) (hdg : decode cc pc = .ok (.putfield index, 3)) (hw : ws.set q0 (a, .inr (ci, fs.set k v)) = ws')
    (kk : ZW p l e R s m args below meth c nL D cl A cells slots Q ws' (pc + 3) lv st) : ZW p l e R s m args below meth c nL D cl A cells slots Q ws pc lv (v :: .ref a :: st) :=
  fun H locs ls h1 h2 h3 h4 => va_put C.1 C.2.1 C.2.2.2.2.1 hin ty0 hty hnm C.2.2.2.1 C.2.2.2.2.2.1 h2 h3 h4 q0 he hc k hk (C.2.2.2.2.1 _ hlink) (fun _ h => h) hfin (by rw [← hd]; exact hty k hk) hn hfit hl hdg (fun H1 locs1 g2 g3 g4 => kk H1 locs1 ls h1 (hw ▸ g2) (hw ▸ g3) g4)
theorem z_putN (C : zC p s m args meth c cc nL own D cl tys A) {Cn host : String} {T : u_T} {N ci index a : Nat} {fs : List Value} (hin : ∀ w ∈ u_ws Cn T N, w ∈ zT) (ty0 : Nat → FieldType) (hty : ∀ k, k < N → parseFieldDescriptor (T k).2.2.1 = some (ty0 k)) (hnm : ∀ a, a < N → ∀ b, b < N → a ≠ b → (T a).2.1 ≠ (T b).2.1) (q0 : Nat) (he : ws[q0]? = some (a, .inr (ci, fs))) (hc : cl[ci]? = some (Cn, T, N)) (k : Nat) (hk : k < N) (hlink : va_Nw (Cond.fieldLinkNest own index (T k).1 (T k).2.1 (T k).2.2.1 host) s) (hfin : (T k).2.2.2 = false) {ty : FieldType} {v : Value} (hd : ty0 k = ty) (hn : narrow ty v = v) (hfit : fits ty v = true) (hl : k < fs.length) (hdg : decode cc pc = .ok (.putfield index, 3)) (hw : ws.set q0 (a, .inr (ci, fs.set k v)) = ws')
    (kk : ZW p l e R s m args below meth c nL D cl A cells slots Q ws' (pc + 3) lv st) : ZW p l e R s m args below meth c nL D cl A cells slots Q ws pc lv (v :: .ref a :: st) :=
  fun H locs ls h1 h2 h3 h4 => va_putN C.1 C.2.1 C.2.2.2.2.1 hin ty0 hty hnm C.2.2.2.1 C.2.2.2.2.2.1 h2 h3 h4 q0 he hc k hk (va_Nw.use rfl hlink) (fun _ h => h) hfin (by rw [← hd]; exact hty k hk) hn hfit hl hdg (fun H1 locs1 g2 g3 g4 => kk H1 locs1 ls h1 (hw ▸ g2) (hw ▸ g3) g4)
theorem z_iald (C : zC p s m args meth c cc nL own D cl tys A) (q0 t0 : Nat) {cA : ClassId} {n a : Nat} {f : Nat → Int32} (ha : ws[q0]? = some (a, .inl (cA, n, .inl f))) (ht : tys[t0]? = some (cA, .int)) {i : Int32} (hin : ¬ (i < 0 ∨ n ≤ i.toNatClampNeg)) (hdg : decode cc pc = .ok (.iaload, 1))
    (kk : ZW p l e R s m args below meth c nL D cl A cells slots Q ws (pc + 1) lv (.int (f i.toNatClampNeg) :: st)) : ZW p l e R s m args below meth c nL D cl A cells slots Q ws pc lv (.int i :: .ref a :: st) :=
  fun H locs ls h1 h2 h3 h4 => va_iald C.1 C.2.1 C.2.2.2.2.2.1 h2 q0 t0 ha ht hin hdg (kk H locs ls h1 h2 h3 h4)
theorem z_lald (C : zC p s m args meth c cc nL own D cl tys A) (q0 t0 : Nat) {cA : ClassId} {n a : Nat} {f : Nat → Int64} (ha : ws[q0]? = some (a, .inl (cA, n, .inr (.inl f)))) (ht : tys[t0]? = some (cA, .long)) {i : Int32} (hin : ¬ (i < 0 ∨ n ≤ i.toNatClampNeg)) (hdg : decode cc pc = .ok (.laload, 1))
    (kk : ZW p l e R s m args below meth c nL D cl A cells slots Q ws (pc + 1) lv (.long (f i.toNatClampNeg) :: st)) : ZW p l e R s m args below meth c nL D cl A cells slots Q ws pc lv (.int i :: .ref a :: st) :=
  fun H locs ls h1 h2 h3 h4 => va_lald C.1 C.2.1 C.2.2.2.2.2.1 h2 q0 t0 ha ht hin hdg (kk H locs ls h1 h2 h3 h4)
theorem z_iast (C : zC p s m args meth c cc nL own D cl tys A) (q0 t0 : Nat) {cA : ClassId} {n a : Nat} {f : Nat → Int32} (ha : ws[q0]? = some (a, .inl (cA, n, .inl f))) (ht : tys[t0]? = some (cA, .int)) {i x : Int32} (hin : ¬ (i < 0 ∨ n ≤ i.toNatClampNeg)) (hdg : decode cc pc = .ok (.iastore, 1)) (hw : ws.set q0 (a, .inl (cA, n, .inl (upd f i.toNatClampNeg x))) = ws')
    (kk : ZW p l e R s m args below meth c nL D cl A cells slots Q ws' (pc + 1) lv st) : ZW p l e R s m args below meth c nL D cl A cells slots Q ws pc lv (.int x :: .int i :: .ref a :: st) :=
  fun H locs ls h1 h2 h3 h4 => va_iast C.1 C.2.1 C.2.2.2.2.2.1 h2 h3 h4 q0 t0 ha ht hin hdg (fun H1 locs1 g2 g3 g4 => kk H1 locs1 ls h1 (hw ▸ g2) (hw ▸ g3) g4)
theorem z_last (C : zC p s m args meth c cc nL own D cl tys A) (q0 t0 : Nat) {cA : ClassId} {n a : Nat} {f : Nat → Int64} (ha : ws[q0]? = some (a, .inl (cA, n, .inr (.inl f)))) (ht : tys[t0]? = some (cA, .long)) {i : Int32} {x : Int64} (hin : ¬ (i < 0 ∨ n ≤ i.toNatClampNeg)) (hdg : decode cc pc = .ok (.lastore, 1)) (hw : ws.set q0 (a, .inl (cA, n, .inr (.inl (vp_updL f i.toNatClampNeg x)))) = ws')
    (kk : ZW p l e R s m args below meth c nL D cl A cells slots Q ws' (pc + 1) lv st) : ZW p l e R s m args below meth c nL D cl A cells slots Q ws pc lv (.long x :: .int i :: .ref a :: st) :=
  fun H locs ls h1 h2 h3 h4 => va_last C.1 C.2.1 C.2.2.2.2.2.1 h2 h3 h4 q0 t0 ha ht hin hdg (fun H1 locs1 g2 g3 g4 => kk H1 locs1 ls h1 (hw ▸ g2) (hw ▸ g3) g4)
theorem z_alen (C : zC p s m args meth c cc nL own D cl tys A) (q0 t0 : Nat) {cA : ClassId} {a : Nat} {x : vp_A} (ha : ws[q0]? = some (a, .inl (cA, x))) {ty : FieldType} (ht : tys[t0]? = some (cA, ty)) {v : Int32} (hv : Int32.ofNat x.1 = v) (hdg : decode cc pc = .ok (.arraylength, 1))
    (kk : ZW p l e R s m args below meth c nL D cl A cells slots Q ws (pc + 1) lv (.int v :: st)) : ZW p l e R s m args below meth c nL D cl A cells slots Q ws pc lv (.ref a :: st) :=
  fun H locs ls h1 h2 h3 h4 => va_alen C.1 C.2.1 C.2.2.2.2.2.1 h2 q0 t0 ha ht hv hdg (kk H locs ls h1 h2 h3 h4)
theorem z_ldcw (C : zC p s m args meth c cc nL own D cl tys A) {index : Nat} {v : Int32} (hc : Jvm.Cond.constant own index v ∈ zT) (hdg : decode cc pc = .ok (.ldc_w index, 3)) (k : ZW p l e R s m args below meth c nL D cl A cells slots Q ws (pc + 3) lv (.int v :: st)) : ZW p l e R s m args below meth c nL D cl A cells slots Q ws pc lv st :=
  fun H locs ls h1 h2 h3 h4 => lv_ldcw C.1 C.2.1 C.2.2.2.1 (C.2.2.2.2.1 _ hc) hdg (k H locs ls h1 h2 h3 h4)
theorem z_mmax (C : zC p s m args meth c cc nL own D cl tys A) {index : Nat} (hl : Cond.methodLink own index Lib.Math.max.name ∈ zT) (hs : Cond.static Lib.Math.max.name ∈ zT) (hi : Cond.initialized "java/lang/Math" ∈ zT) (hc : Cond.code Lib.Math.max.name Lib.Math.max.code 2 (some .int) ∈ zT) (hR : 1 ≤ R.frames ∧ (st.map fun v => v.category).sum + 13 ≤ R.locals ∧ cells ≤ R.cells ∧ slots ≤ R.slots) {x y : Int32} (hdg : decode cc pc = .ok (.invokestatic index, 3)) (k : ZW p l e R s m args below meth c nL D cl A cells slots Q ws (pc + 3) lv (.int (if x < y then y else x) :: st)) : ZW p l e R s m args below meth c nL D cl A cells slots Q ws pc lv (.int y :: .int x :: st) :=
  fun H locs ls h1 h2 h3 h4 => va_mmax C.1 C.2.1 (C.2.2.1.trans h1.1.symm) C.2.2.2.1 (C.2.2.2.2.1 _ hl) (C.2.2.2.2.1 _ hs) (C.2.2.2.2.1 _ hi) (C.2.2.2.2.1 _ hc) hR.1 hR.2.1 hR.2.2.1 hR.2.2.2 hdg (k H locs ls h1 h2 h3 h4)
theorem z_gets (C : zC p s m args meth c cc nL own D cl tys A) {Cn n d : String} {v : Value} {index : Nat} (hZ : va_Z Cn n d v A s s.heap) (hlink : Cond.fieldLink own index Cn n d ∈ zT) (hdg : decode cc pc = .ok (.getstatic index, 3))
    (kk : ZW p l e R s m args below meth c nL D cl A cells slots Q ws (pc + 3) lv (v :: st)) : ZW p l e R s m args below meth c nL D cl A cells slots Q ws pc lv st :=
  fun H locs ls h1 h2 h3 h4 => va_gets C.1 C.2.1 hZ h4 C.2.2.2.1 (C.2.2.2.2.1 _ hlink) (fun _ h => h) hdg (kk H locs ls h1 h2 h3 h4)
theorem z_ti (C : zC p s m args meth c cc nL own D cl tys A) {t N : Nat} {f : Nat → Value} (hT : va_T .int t N f A s s.heap) {i : Int32} (hin : ¬ (i < 0 ∨ N ≤ i.toNatClampNeg)) {v : Value} (hv : f i.toNatClampNeg = v) (hdg : decode cc pc = .ok (.iaload, 1))
    (kk : ZW p l e R s m args below meth c nL D cl A cells slots Q ws (pc + 1) lv (v :: st)) : ZW p l e R s m args below meth c nL D cl A cells slots Q ws pc lv (.int i :: .ref t :: st) :=
  fun H locs ls h1 h2 h3 h4 => va_ti C.1 C.2.1 hT h4 hin hv hdg (kk H locs ls h1 h2 h3 h4)
theorem z_tableIn (C : zC p s m args meth c cc nL own D cl tys A) {dflt lo hi : Int} {offs : Array Int} {len : Nat} {x : Int32} {off : Int} {tgt : Nat} (hdg : decode cc pc = .ok (.tableswitch dflt lo hi offs, len)) (x0 : Int32) (hx0 : x = x0) (h1 : ¬ x0.toInt < lo) (h2 : ¬ hi < x0.toInt) (ho : offs[(x0.toInt - lo).toNat]? = some off) (ht : (pc : Int) + off = (tgt : Int))
    (k : ZW p l e R s m args below meth c nL D cl A cells slots Q ws tgt lv st) : ZW p l e R s m args below meth c nL D cl A cells slots Q ws pc lv (.int x :: st) :=
  fun H locs ls g1 g2 g3 g4 => lv_tableIn C.1 C.2.1 hdg (by rw [hx0]; exact h1) (by rw [hx0]; exact h2) (by rw [hx0]; exact ho) ht (k H locs ls g1 g2 g3 g4)
theorem z_tableOut (C : zC p s m args meth c cc nL own D cl tys A) {dflt lo hi : Int} {offs : Array Int} {len : Nat} {x : Int32} {tgt : Nat} (hdg : decode cc pc = .ok (.tableswitch dflt lo hi offs, len)) (h : x.toInt < lo ∨ hi < x.toInt) (ht : (pc : Int) + dflt = (tgt : Int))
    (k : ZW p l e R s m args below meth c nL D cl A cells slots Q ws tgt lv st) : ZW p l e R s m args below meth c nL D cl A cells slots Q ws pc lv (.int x :: st) :=
  fun H locs ls g1 g2 g3 g4 => lv_tableOut C.1 C.2.1 hdg h ht (k H locs ls g1 g2 g3 g4)
theorem z_lookup (C : zC p s m args meth c cc nL own D cl tys A) {dflt : Int} {ps : Array (Int × Int)} {len : Nat} {x : Int32} {off : Int} {tgt : Nat} (hdg : decode cc pc = .ok (.lookupswitch dflt ps, len)) (hp : (ps.toList.zip (ps.toList.drop 1)).all (fun (a, next) => a.1 < next.1) = true) (ho : Op.lookupswitch.offset ps.toList dflt x.toInt = off) (ht : (pc : Int) + off = (tgt : Int))
    (k : ZW p l e R s m args below meth c nL D cl A cells slots Q ws tgt lv st) : ZW p l e R s m args below meth c nL D cl A cells slots Q ws pc lv (.int x :: st) :=
  fun H locs ls g1 g2 g3 g4 => lv_lookup C.1 C.2.1 hdg hp ho ht (k H locs ls g1 g2 g3 g4)

end ZL
/-! contracts of methods that make nothing -/
def z_rep : va_W → List Nat → va_W → va_W
  | ws, i :: is, w :: wc => z_rep (ws.set i w) is wc
  | ws, _, _ => ws
theorem z_rep_get : ∀ (is : List Nat) (wc ws : va_W) (k : Nat) (q : Nat × va_E), is.length ≤ wc.length → (z_rep ws is wc)[k]? = some q → (∃ j : Nat, wc[j]? = some q) ∨ (ws[k]? = some q ∧ k ∉ is)
  | [], wc, ws, k, q, _, h => Or.inr ⟨by cases wc <;> exact h, List.not_mem_nil⟩
  | i :: is, [], ws, k, q, hl, h => absurd hl (by simp)
  | i :: is, w :: wc, ws, k, q, hl, h => by
    rcases z_rep_get is wc (ws.set i w) k q (by simpa using hl) h with ⟨j, hj⟩ | ⟨h1, h2⟩
    · exact Or.inl ⟨j + 1, by simpa using hj⟩
    · by_cases e : i = k
      · subst e
        rw [List.getElem?_set] at h1
        split at h1
        · rename_i hh
          split at h1
          · exact Or.inl ⟨0, by simpa using h1⟩
          · cases h1
        · rename_i hh; exact absurd rfl hh
      · rw [List.getElem?_set_ne e] at h1
        exact Or.inr ⟨h1, fun hm => by rcases List.mem_cons.mp hm with r | r; exact e r.symm; exact h2 r⟩
theorem z_rep_fst : ∀ (is : List Nat) (wc ws : va_W), is.map (fun i => (ws.map Prod.fst)[i]?) = wc.map (fun w => some w.1) → (z_rep ws is wc).map Prod.fst = ws.map Prod.fst
  | [], wc, ws, _ => by cases wc <;> rfl
  | i :: is, [], ws, h => rfl
  | i :: is, w :: wc, ws, h => by
    have h1 : (ws.map Prod.fst)[i]? = some w.1 := by have := congrArg List.head? h; simpa using this
    have h2 : is.map (fun i => (ws.map Prod.fst)[i]?) = wc.map (fun w => some w.1) := by have := congrArg List.tail h; simpa using this
    have h3 : (ws.set i w).map Prod.fst = ws.map Prod.fst := by
      rw [List.map_set]
      apply List.ext_getElem?
      intro k
      rw [List.getElem?_set]
      by_cases e : i = k
      · subst e
        rw [h1]
        have : i < (ws.map Prod.fst).length := (List.getElem?_eq_some_iff.mp h1).1
        have h9 : i < ws.length := by simpa using this
        simp [h9]
      · simp [e]
    show (z_rep (ws.set i w) is wc).map Prod.fst = _
    rw [z_rep_fst is wc (ws.set i w) (by rw [h3]; exact h2), h3]
theorem z_D_fst {A : Nat → Prop} {ws ws' : va_W} (h : ws'.map Prod.fst = ws.map Prod.fst) (hD : va_D A ws) : va_D A ws' := by
  have key : ∀ (k : Nat) (q : Nat × va_E), ws'[k]? = some q → ∃ q2, ws[k]? = some q2 ∧ q2.1 = q.1 := by
    intro k q hq
    have h1 : (ws.map Prod.fst)[k]? = some q.1 := by rw [← h, List.getElem?_map, hq]; rfl
    rw [List.getElem?_map] at h1
    cases hk : ws[k]? with
    | none => rw [hk] at h1; cases h1
    | some q2 => rw [hk] at h1; exact ⟨q2, rfl, Option.some.inj h1⟩
  refine ⟨fun i j p q h1 h2 e => ?_, fun k q hk => ?_⟩
  · obtain ⟨p2, a1, a2⟩ := key i p h1
    obtain ⟨q2, b1, b2⟩ := key j q h2
    exact hD.1 i j p2 q2 a1 b1 (by rw [a2, b2, e])
  · obtain ⟨q2, b1, b2⟩ := key k q hk
    rw [← b2]
    exact hD.2 k q2 b1
theorem z_map_sub {ws wc : va_W} {is : List Nat} (h : is.map (fun i => ws[i]?) = wc.map some) : is.filterMap (fun i => ws[i]?) = wc := by
  have : is.filterMap (fun i => ws[i]?) = (is.map (fun i => ws[i]?)).filterMap id := by rw [List.filterMap_map]; rfl
  rw [this, h, List.filterMap_map]
  simp
/-- the addresses that a method may write: those of its cells, and new ones -/
def zA (as : List Nat) (sz : Nat) : Nat → Prop := fun q => q ∈ as ∨ sz ≤ q
theorem zA_of {wc : va_W} {sz q : Nat} (h : zA (wc.map Prod.fst) sz q) : va_A wc sz q := by
  rcases h with h | h
  · obtain ⟨w, hw, rfl⟩ := List.mem_map.mp h
    obtain ⟨k, hk⟩ := List.mem_iff_getElem?.mp hw
    exact Or.inl ⟨k, w.2, hk⟩
  · exact Or.inr h
theorem zA_self {A : Nat → Prop} {wc : va_W} {sz : Nat} (h : va_D A wc) : va_D (zA (wc.map Prod.fst) sz) wc := ⟨h.1, fun _ q hk => Or.inl (List.mem_map.mpr ⟨q, List.mem_of_getElem? hk, rfl⟩)⟩
/-- a contract's end: this answer, these cells, nothing else -/
def zQ (r : Option Value) (D : va_G) (cl : List vw_C) (wc' : va_W) (as : List Nat) : Array Value → State → Outcome → State → Prop := fun _ st oc t => oc = .returned r ∧ va_P D cl wc' t.heap ∧ va_F (zA as st.heap.size) st t
/-- a contract's start -/
def zPre (av : List Value) (D : va_G) (cl : List vw_C) (tys : List (ClassId × FieldType)) (wc : va_W) (sz : Nat) : Array Value → State → Prop := fun v U => v = av.toArray ∧ U.heap.size = sz ∧ va_P D cl wc U.heap ∧ va_K D cl tys U ∧ va_D (fun _ => True) wc ∧ zE (zA (wc.map Prod.fst) sz) U U.heap
/-- the contract of a method that makes nothing: from the cells wc it comes to the cells wc' and answers r -/
def zM (l : Launch) (y : MethodName) (wy : List Cond) (rm : Room) (D : va_G) (cl : List vw_C) (tys : List (ClassId × FieldType)) (av : List Value) (wc wc' : va_W) (r : Option Value) : Prop := ∀ sz : Nat, Met l y wy rm (zPre av D cl tys wc sz) (zQ r D cl wc' (wc.map Prod.fst)) 0 0 (zA (wc.map Prod.fst) sz)
theorem zPre.blind {av : List Value} {D : va_G} {cl : List vw_C} {tys : List (ClassId × FieldType)} {wc : va_W} {sz : Nat} : FrameBlind (zPre av D cl tys wc sz) := by
  intro a U g mk h
  obtain ⟨h1, h2, h3, h4, h5, h6⟩ := h
  exact ⟨h1, h2, h3, va_K.moved (u := U) (U := U.calling g mk a) (Vm.Alike.refl U.vm) h4, h5, zE.same (u := U) (U := U.calling g mk a) rfl h6⟩
section ZK
variable {p : Program} {l : Launch} {e : Env} {R : Room} {s : State} {m : MethodId} {args : Array Value} {below : List Frame} {meth : Method} {c : Code} {cells slots : Nat} {Q : State → Prop}
variable {cc : ByteArray} {pc nL : Nat} {D : va_G} {cl : List vw_C} {A : Nat → Prop} {tys : List (ClassId × FieldType)} {ws ws' : va_W} {lv lv' : List (Nat × Value)} {st rest : List Value} {own : String} {as0 : List Nat}
/-- a method from its walk -/
theorem zM.intro {y : MethodName} {wy wy' : List Cond} {rm : Room} {wc wc' : va_W} {r : Option Value} {maxL : Nat} {ret : Option FieldType} {av : List Value}
    (hy : plainName y.cls = true) (hw : wy = Cond.code y cc maxL ret :: wy') (hT : ∀ w ∈ zT, w ∈ wy) (hlen : (lg_sl av).length ≤ maxL)
    (body : ∀ (p : Program) (e : Env) (s : State) (m : MethodId) (below : List Frame) (meth : Method) (c : Code), zC p s m av.toArray meth c cc maxL y.cls D cl tys (zA (wc.map Prod.fst) s.heap.size) → meth.sig.returnType = ret → (y.name = "<init>" → meth.name = "<init>") →
      ZW p l e rm s m av.toArray below meth c maxL D cl (zA (wc.map Prod.fst) s.heap.size) 0 0 (MQ below (zQ r D cl wc' (wc.map Prod.fst)) av.toArray s 0 0 (zA (wc.map Prod.fst) s.heap.size)) wc 0 (lv_args 0 av) []) : zM l y wy rm D cl tys av wc wc' r := by
  intro sz
  refine Met.ofW (cc := cc) (maxL := maxL) (ret := ret) hy hw ?_
  intro p e s m args below meth c s₁ B hml hv
  obtain ⟨rfl, hsz, hP, hK, hD0, hE⟩ := hv
  subst hsz
  have hts := atoms_spec (ws := wy) B.pre
  rw [lg_entry_eq]
  exact body p e s m below meth c ⟨B.exec, B.bytes, hml, findClass_of_methodNamed B.named, fun w h => hts w (hT w h), hK, fun q h => Or.inr h, B.notSynchronized, hE⟩ B.returns
    (fun hn => by rw [← hn]; exact (name_of_methodNamed B.named B.method).1) s.heap [] _ (lv_entry av hlen) hP (zA_self hD0) va_S.rf
theorem z_iret (C : zC p s m args meth c cc nL own D cl tys (zA as0 s.heap.size)) (hr : meth.sig.returnType = some .int) {v : Int32} (hdg : decode cc pc = .ok (.ireturn, 1)) :
    ZW p l e R s m args below meth c nL D cl (zA as0 s.heap.size) cells slots (MQ below (zQ (some (.int v)) D cl ws as0) args s cells slots (zA as0 s.heap.size)) ws pc lv [.int v] :=
  fun H locs ls h1 h2 h3 h4 => W.iret C.1 C.2.1 hr (fun t ht hW => ⟨rfl, by rw [ht]; exact h2, h4.F ht⟩) h4.2.2 hdg C.2.2.2.2.2.2.2.1
theorem z_zret (C : zC p s m args meth c cc nL own D cl tys (zA as0 s.heap.size)) {ty : FieldType} (hr : meth.sig.returnType = some ty) {v : Int32} (hn : narrow ty (.int v) = .int v) (hdg : decode cc pc = .ok (.ireturn, 1)) :
    ZW p l e R s m args below meth c nL D cl (zA as0 s.heap.size) cells slots (MQ below (zQ (some (.int v)) D cl ws as0) args s cells slots (zA as0 s.heap.size)) ws pc lv [.int v] :=
  fun H locs ls h1 h2 h3 h4 => W.zret C.1 C.2.1 hr hn (fun t ht hW => ⟨rfl, by rw [ht]; exact h2, h4.F ht⟩) h4.2.2 hdg C.2.2.2.2.2.2.2.1
theorem z_lret (C : zC p s m args meth c cc nL own D cl tys (zA as0 s.heap.size)) (hr : meth.sig.returnType = some .long) {v : Int64} (hdg : decode cc pc = .ok (.lreturn, 1)) :
    ZW p l e R s m args below meth c nL D cl (zA as0 s.heap.size) cells slots (MQ below (zQ (some (.long v)) D cl ws as0) args s cells slots (zA as0 s.heap.size)) ws pc lv [.long v] :=
  fun H locs ls h1 h2 h3 h4 => W.lret C.1 C.2.1 hr (fun t ht hW => ⟨rfl, by rw [ht]; exact h2, h4.F ht⟩) h4.2.2 hdg C.2.2.2.2.2.2.2.1
theorem z_vret (C : zC p s m args meth c cc nL own D cl tys (zA as0 s.heap.size)) (hr : meth.sig.returnType = none) (hdg : decode cc pc = .ok (.return_, 1)) :
    ZW p l e R s m args below meth c nL D cl (zA as0 s.heap.size) cells slots (MQ below (zQ none D cl ws as0) args s cells slots (zA as0 s.heap.size)) ws pc lv [] :=
  fun H locs ls h1 h2 h3 h4 => W.vret C.1 C.2.1 hr (fun t ht hW => ⟨rfl, by rw [ht]; exact h2, h4.F ht⟩) h4.2.2 hdg C.2.2.2.2.2.2.2.1
/-- behind a call: the callee's cells are changed in their places -/
theorem z_call (C : zC p s m args meth c cc nL own D cl tys A) {wc wc' : va_W} {r : Option Value} {aa : Array Value} (isC : List Nat) (hnd : va_nd isC = true)
    (hC : isC.map (fun i => ws[i]?) = wc.map some) (hf : wc'.map Prod.fst = wc.map Prod.fst) (hw : z_rep ws isC wc' = ws')
    (run : ∀ (H : Heap) (locs : List Loc) (ls : Array Slot), lv_has ls nL lv → va_P D cl wc H → va_D (fun _ => True) wc → zE (zA (wc.map Prod.fst) H.size) s H → va_Run p l e R s m args below meth c H locs cells slots 0 0 (F0 m pc ls st) rest (zQ r D cl wc' (wc.map Prod.fst) aa) (zA (wc.map Prod.fst) H.size))
    (kk : ZW p l e R s m args below meth c nL D cl A cells slots Q ws' (pc + 3) lv (r.toList ++ rest)) : ZW p l e R s m args below meth c nL D cl A cells slots Q ws pc lv st := by
  intro H locs ls h1 h2 h3 h4
  have hFc : ∀ q, zA (wc.map Prod.fst) H.size q → A q := fun q h => va_free h3 h4 C.2.2.2.2.2.2.1 isC hC q (zA_of h)
  have hPc : va_P D cl wc H := h2.sub isC (z_map_sub hC)
  have hDc : va_D (fun _ => True) wc := (h3.sub isC hnd hC).weaken (fun _ _ _ _ => trivial)
  have hE : zE (zA (wc.map Prod.fst) H.size) s H := zE.narrow (zE.kept C.2.2.2.2.2.2.2.2 h4.2.1) hFc
  intro T hT X
  obtain ⟨v, st₀, t, T', L, h0, X', hL, e1, e2, ⟨hv, hP1, hF1⟩, hgo⟩ := run H locs ls h1 hPc hDc hE T hT X
  cases hv
  have hk : ∀ q : Nat, q < H.size → ¬ zA (wc.map Prod.fst) H.size q → t.heap[q]? = H[q]? := fun q a b => by
    have := hF1.2 q (by rw [h0]; exact a) (by rw [h0]; exact b)
    rw [h0] at this
    exact this
  have hz : H.size ≤ t.heap.size := by have := hF1.1; rw [h0] at this; exact this
  have hlen : isC.length ≤ wc'.length := by
    have a1 := congrArg List.length hC
    have a2 := congrArg List.length hf
    simp only [List.length_map] at a1 a2
    omega
  have P2 : va_P D cl ws' T'.heap := by
    rw [e1, ← hw]
    intro k q hq
    rcases z_rep_get isC wc' ws k q hlen hq with ⟨j, hj⟩ | ⟨hq1, hq2⟩
    · exact hP1 j q hj
    · have hat := h2 k q hq1
      refine hat.kept (hk q.1 hat.lt ?_)
      intro hz9
      rcases zA_of hz9 with ⟨k', e', hk'⟩ | hk'
      · have a1 : (isC.map (fun i => ws[i]?))[k']? = some (some (q.1, e')) := by rw [hC, List.getElem?_map, hk']; rfl
        rw [List.getElem?_map] at a1
        cases hi : isC[k']? with
        | none => rw [hi] at a1; cases a1
        | some i =>
          rw [hi] at a1
          have a2 : ws[i]? = some (q.1, e') := Option.some.inj a1
          have a3 := h3.1 i k _ _ a2 hq1 rfl
          subst a3
          exact hq2 (List.mem_of_getElem? hi)
      · exact absurd hat.lt (Nat.not_lt.mpr hk')
  have D2 : va_D A ws' := by
    rw [← hw]
    refine z_D_fst (z_rep_fst isC wc' ws ?_) h3
    have a1 : isC.map (fun i => (ws.map Prod.fst)[i]?) = (isC.map (fun i => ws[i]?)).map (fun o => o.map Prod.fst) := by simp [Function.comp_def]
    have a2 : wc'.map (fun w => some w.1) = (wc'.map Prod.fst).map some := by simp [Function.comp_def]
    rw [a1, hC, a2, hf]
    simp [Function.comp_def]
  have S2 : va_S A s.heap T'.heap (locs ++ L) := ⟨Nat.le_trans h4.1 (by rw [e1]; exact hz), fun q a b => by rw [e1, hk q (Nat.lt_of_lt_of_le a h4.1) (fun z => b (hFc q z))]; exact h4.2.1 q a b, fun q hq => by
    rcases List.mem_append.mp hq with h | h
    · exact h4.2.2 q h
    · exact hFc _ (hL q h)⟩
  obtain ⟨t2, a1, b1⟩ := kk T'.heap (locs ++ L) ls h1 P2 D2 S2 T' rfl X'
  exact ⟨t2, hgo t2 a1, b1⟩
/-- what the tables say of an instance method, of a static one -/
def zMi (y : MethodName) (bytes : ByteArray) (maxL : Nat) (ret : Option FieldType) (n : Nat) : Prop := Cond.code y bytes maxL ret ∈ zT ∧ Cond.initialized y.cls ∈ zT ∧ Cond.instanceMethod y ∈ zT ∧ Cond.selects y.cls y y ∈ zT ∧ y.cls ≠ "java/lang/invoke/MethodHandle" ∧ y.cls ≠ "java/lang/invoke/VarHandle" ∧ (parseMethodDescriptor y.desc).map (fun d => d.parameters.length) = some n
def zMs (y : MethodName) (bytes : ByteArray) (maxL : Nat) (ret : Option FieldType) (n : Nat) : Prop := Cond.code y bytes maxL ret ∈ zT ∧ Cond.initialized y.cls ∈ zT ∧ Cond.static y ∈ zT ∧ y.cls ≠ "java/lang/invoke/MethodHandle" ∧ y.cls ≠ "java/lang/invoke/VarHandle" ∧ (parseMethodDescriptor y.desc).map (fun d => d.parameters.length) = some n
theorem zGood {y : MethodName} {bytes : ByteArray} {maxL : Nat} {ret : Option FieldType} (h : Cond.code y bytes maxL ret ∈ zT) : GoodIn zT (Cond.code y bytes maxL ret :: zT) := fun w hw => by
  rcases List.mem_cons.mp hw with rfl | hw
  · exact ⟨h, zT_good _ h⟩
  · exact ⟨hw, zT_good w hw⟩
abbrev zRoom (R rm : Room) (maxL : Nat) : Prop := rm.cells = 0 ∧ rm.slots = 0 ∧ rm.frames + 1 ≤ R.frames ∧ 8 + (maxL + 11) + rm.locals ≤ R.locals
theorem z_callV (C : zC p s m args meth c cc nL own D cl tys A) {y : MethodName} {rm : Room} {bytes : ByteArray} {maxL n index b ci N : Nat} {ret : Option FieldType} {As : List Value} {wc wc' : va_W} {r : Option Value} {T : u_T} {fs : List Value}
    (hM : zM l y (Cond.code y bytes maxL ret :: zT) rm D cl tys (.ref b :: As) wc wc' r) (my : zMi y bytes maxL ret n) (hl : Cond.methodLink own index y ∈ zT) (hR : zRoom R rm maxL)
    (q0 : Nat) (he : wc[q0]? = some (b, .inr (ci, fs))) (hc : cl[ci]? = some (y.cls, T, N)) (isC : List Nat) (hnd : va_nd isC = true) (hC : isC.map (fun i => ws[i]?) = wc.map some) (hf : wc'.map Prod.fst = wc.map Prod.fst) (hw : z_rep ws isC wc' = ws')
    (hn : As.length = n) (hst : st = As.reverse ++ .ref b :: rest) (hrm : (rest.map fun v => v.category).sum ≤ 8) (hcs : cells ≤ R.cells ∧ slots ≤ R.slots) (hdg : decode cc pc = .ok (.invokevirtual index, 3))
    (kk : ZW p l e R s m args below meth c nL D cl A cells slots Q ws' (pc + 3) lv (r.toList ++ rest)) : ZW p l e R s m args below meth c nL D cl A cells slots Q ws pc lv st := by
  refine z_call C isC hnd hC hf hw (aa := (Value.ref b :: As).toArray) (fun H locs ls h1 hP hD hE => ?_) kk
  obtain ⟨m1, m2, m3, m4, m5, m6, m7⟩ := my
  have hts := C.2.2.2.2.1
  exact va_runV (Ts := zT) ⟨C.1, C.2.1, C.2.2.1, C.2.2.2.1, hts⟩ (hM H.size) ⟨callB_of n hts (zGood m1) rfl hR.1 hR.2.1 (hts _ m2) (hts _ hl) ⟨m5, m6, m7⟩ hR.2.2, hts _ m3, hts _ m4⟩
    ⟨zPre.blind, va_recv C.2.2.2.2.2.1 hP hc he, fun U hU hW => ⟨rfl, by rw [hU], by rw [hU]; exact hP, va_K.moved hW.alike C.2.2.2.2.2.1, hD, by rw [hU]; exact zE.warm hW hE⟩⟩ rfl hn h1.1 hst (lv_room hrm) hdg hcs
theorem z_callVN (C : zC p s m args meth c cc nL own D cl tys A) {y : MethodName} {host : String} {rm : Room} {bytes : ByteArray} {maxL n index b ci N : Nat} {ret : Option FieldType} {As : List Value} {wc wc' : va_W} {r : Option Value} {T : u_T} {fs : List Value}
    (hM : zM l y (Cond.code y bytes maxL ret :: zT) rm D cl tys (.ref b :: As) wc wc' r) (my : zMi y bytes maxL ret n) (hl : va_Nw (Cond.methodLinkNest own index y host) s) (hR : zRoom R rm maxL)
    (q0 : Nat) (he : wc[q0]? = some (b, .inr (ci, fs))) (hc : cl[ci]? = some (y.cls, T, N)) (isC : List Nat) (hnd : va_nd isC = true) (hC : isC.map (fun i => ws[i]?) = wc.map some) (hf : wc'.map Prod.fst = wc.map Prod.fst) (hw : z_rep ws isC wc' = ws')
    (hn : As.length = n) (hst : st = As.reverse ++ .ref b :: rest) (hrm : (rest.map fun v => v.category).sum ≤ 8) (hcs : cells ≤ R.cells ∧ slots ≤ R.slots) (hdg : decode cc pc = .ok (.invokevirtual index, 3))
    (kk : ZW p l e R s m args below meth c nL D cl A cells slots Q ws' (pc + 3) lv (r.toList ++ rest)) : ZW p l e R s m args below meth c nL D cl A cells slots Q ws pc lv st := by
  refine z_call C isC hnd hC hf hw (aa := (Value.ref b :: As).toArray) (fun H locs ls h1 hP hD hE => ?_) kk
  obtain ⟨m1, m2, m3, m4, m5, m6, m7⟩ := my
  have hts := C.2.2.2.2.1
  exact va_runVN (Ts := zT) ⟨C.1, C.2.1, C.2.2.1, C.2.2.2.1, hts⟩ (hM H.size) ⟨va_cnB n hts (zGood m1) rfl hR.1 hR.2.1 hl (hts _ m2) ⟨m5, m6, m7⟩ hR.2.2, hts _ m3, hts _ m4⟩
    ⟨zPre.blind, va_recv C.2.2.2.2.2.1 hP hc he, fun U hU hW => ⟨rfl, by rw [hU], by rw [hU]; exact hP, va_K.moved hW.alike C.2.2.2.2.2.1, hD, by rw [hU]; exact zE.warm hW hE⟩⟩ rfl hn h1.1 hst (lv_room hrm) hdg hcs
theorem z_callS (C : zC p s m args meth c cc nL own D cl tys A) {y : MethodName} {rm : Room} {bytes : ByteArray} {maxL n index : Nat} {ret : Option FieldType} {As : List Value} {wc wc' : va_W} {r : Option Value}
    (hM : zM l y (Cond.code y bytes maxL ret :: zT) rm D cl tys As wc wc' r) (my : zMs y bytes maxL ret n) (hl : Cond.methodLink own index y ∈ zT) (hR : zRoom R rm maxL)
    (isC : List Nat) (hnd : va_nd isC = true) (hC : isC.map (fun i => ws[i]?) = wc.map some) (hf : wc'.map Prod.fst = wc.map Prod.fst) (hw : z_rep ws isC wc' = ws')
    (hn : As.length = n) (hst : st = As.reverse ++ rest) (hrm : (rest.map fun v => v.category).sum ≤ 8) (hcs : cells ≤ R.cells ∧ slots ≤ R.slots) (hdg : decode cc pc = .ok (.invokestatic index, 3))
    (kk : ZW p l e R s m args below meth c nL D cl A cells slots Q ws' (pc + 3) lv (r.toList ++ rest)) : ZW p l e R s m args below meth c nL D cl A cells slots Q ws pc lv st := by
  refine z_call C isC hnd hC hf hw (aa := As.toArray) (fun H locs ls h1 hP hD hE => ?_) kk
  obtain ⟨m1, m2, m3, m5, m6, m7⟩ := my
  have hts := C.2.2.2.2.1
  exact va_runS (Ts := zT) ⟨C.1, C.2.1, C.2.2.1, C.2.2.2.1, hts⟩ (hM H.size) ⟨callB_of n hts (zGood m1) rfl hR.1 hR.2.1 (hts _ m2) (hts _ hl) ⟨m5, m6, m7⟩ hR.2.2, hts _ m3⟩
    ⟨zPre.blind, fun U hU hW => ⟨rfl, by rw [hU], by rw [hU]; exact hP, va_K.moved hW.alike C.2.2.2.2.2.1, hD, by rw [hU]; exact zE.warm hW hE⟩⟩ rfl hn h1.1 hst (lv_room hrm) hdg hcs
theorem z_callSN (C : zC p s m args meth c cc nL own D cl tys A) {y : MethodName} {host : String} {rm : Room} {bytes : ByteArray} {maxL n index : Nat} {ret : Option FieldType} {As : List Value} {wc wc' : va_W} {r : Option Value}
    (hM : zM l y (Cond.code y bytes maxL ret :: zT) rm D cl tys As wc wc' r) (my : zMs y bytes maxL ret n) (hl : va_Nw (Cond.methodLinkNest own index y host) s) (hR : zRoom R rm maxL)
    (isC : List Nat) (hnd : va_nd isC = true) (hC : isC.map (fun i => ws[i]?) = wc.map some) (hf : wc'.map Prod.fst = wc.map Prod.fst) (hw : z_rep ws isC wc' = ws')
    (hn : As.length = n) (hst : st = As.reverse ++ rest) (hrm : (rest.map fun v => v.category).sum ≤ 8) (hcs : cells ≤ R.cells ∧ slots ≤ R.slots) (hdg : decode cc pc = .ok (.invokestatic index, 3))
    (kk : ZW p l e R s m args below meth c nL D cl A cells slots Q ws' (pc + 3) lv (r.toList ++ rest)) : ZW p l e R s m args below meth c nL D cl A cells slots Q ws pc lv st := by
  refine z_call C isC hnd hC hf hw (aa := As.toArray) (fun H locs ls h1 hP hD hE => ?_) kk
  obtain ⟨m1, m2, m3, m5, m6, m7⟩ := my
  have hts := C.2.2.2.2.1
  exact va_runSN (Ts := zT) ⟨C.1, C.2.1, C.2.2.1, C.2.2.2.1, hts⟩ (hM H.size) ⟨va_cnB n hts (zGood m1) rfl hR.1 hR.2.1 hl (hts _ m2) ⟨m5, m6, m7⟩ hR.2.2, hts _ m3, trivial⟩
    ⟨zPre.blind, fun U hU hW => ⟨rfl, by rw [hU], by rw [hU]; exact hP, va_K.moved hW.alike C.2.2.2.2.2.1, hD, by rw [hU]; exact zE.warm hW hE⟩⟩ rfl hn h1.1 hst (lv_room hrm) hdg hcs
end ZK


section ZT
variable {p : Program} {s : State} {m : MethodId} {args : Array Value} {meth : Method} {c : Code} {cc : ByteArray} {nL : Nat} {own : String} {D : va_G} {cl : List vw_C} {tys : List (ClassId × FieldType)} {A : Nat → Prop}
theorem znest (C : zC p s m args meth c cc nL own D cl tys A) {w : Cond} (i : Nat) (h : zN[i]? = some w) : va_Nw w s := C.2.2.2.2.2.2.2.2.1 w (List.mem_of_getElem? h)
theorem zturns (C : zC p s m args meth c cc nL own D cl tys A) : ∃ t : Nat, va_Z "PathSums" "TURNS" "[I" (.ref t) A s s.heap ∧ va_T .int t 5 (fun k => .int (tb_TURNS k)) A s s.heap := C.2.2.2.2.2.2.2.2.2
end ZT
abbrev ZV (p : Program) (l : Launch) (e : Env) (R : Room) (s : State) (m : MethodId) (args : Array Value) (below : List Frame) (meth : Method) (c : Code) (nL : Nat) (D : va_G) (r : Option Value) (wc' : va_W) (as : List Nat) (ws : va_W) (pc : Nat) (lv : List (Nat × Value)) (st : List Value) : Prop :=
  ZW p l e R s m args below meth c nL D vwCl (zA as s.heap.size) 0 0 (MQ below (zQ r D vwCl wc' as) args s 0 0 (zA as s.heap.size)) ws pc lv st

