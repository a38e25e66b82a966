/-! the class's four times the product of three values -/
/-- the mask of a bit, of a constant (24) none -/
def mk (i : Nat) : Int32 := if i < 24 then sb i else 0
theorem bt_all : ∀ i, i < 32 → bt 16777215 i = decide (i < 24) := by decide +kernel
theorem lo24_all : lo24 16777215 := fun j hj h2 => by rw [bt_all j hj]; simp; omega
theorem mk_and {i : Nat} (hi : i ≤ 24) : sb i &&& 16777215 = mk i := by
  unfold mk
  apply b_ext
  intro j hj
  rw [b_and, bt_sb (by omega) hj, bt_all j hj]
  by_cases h : i < 24
  · rw [if_pos h, bt_sb (by omega) hj]
    by_cases e : i = j
    · subst e; simp [h]
    · simp [e]
  · rw [if_neg h, b_0]
    simp; omega
theorem and_or3 (a b c d : Int32) : (a ||| b ||| c) &&& d = (a &&& d) ||| (b &&& d) ||| (c &&& d) := by
  apply b_ext
  intro j hj
  simp only [b_and, b_or]
  cases bt a j <;> cases bt b j <;> cases bt c j <;> cases bt d j <;> rfl
theorem mk3 {i j k : Nat} (hi : i ≤ 24) (hj : j ≤ 24) (hk : k ≤ 24) : (sb i ||| sb j ||| sb k) &&& 16777215 = mk i ||| mk j ||| mk k := by
  rw [and_or3, mk_and hi, mk_and hj, mk_and hk]
theorem lo24_mk {i : Nat} : lo24 (mk i) := by
  unfold mk
  by_cases h : i < 24
  · rw [if_pos h]; exact lo24_sb h
  · rw [if_neg h]; exact lo24_0
theorem lt25 {i : Nat} (h : i < 25) : ¬ (24 : Int32) < nI i := show ¬ nI 24 < nI i from nI_nlt (by omega) (by omega)
theorem ge25 : (24 : Int32) < nI 25 := show nI 24 < nI 25 from nI_lt (by omega) (by omega)
/-- what addFourTimes(a, b, c) adds -/
def e4k (c : Int32) (fa : Int32) (m : Int32) : BitVec 3 := sm (fun k => if bt c k then ct (fa ||| mk k) 4 m else 0) 25
def e4j (b c : Int32) (fa : Int32) (m : Int32) : BitVec 3 := sm (fun j => if bt b j then e4k c (fa ||| mk j) m else 0) 25
def e4 (a b c : Int32) (m : Int32) : BitVec 3 := sm (fun i => if bt a i then e4j b c (mk i) m else 0) 25
theorem four1 {i j : Nat} (hi : i < 25) (hj : j < 25) (a b c : Int32) : EffC (fun mono num => zloop (fun q => f_Po_addFourTimes_l47 a b c (nI i) (nI j) q.1 q.2.1 q.2.2) zF (0, mono, num)) (e4k c (mk i ||| mk j)) :=
  effC_loop (step := fun q => f_Po_addFourTimes_l47 a b c (nI i) (nI j) q.1 q.2.1 q.2.2) 25 (by omega) (fun k m => if bt c k then ct (mk i ||| mk j ||| mk k) 4 m else 0)
    (fun k hk P mono num hp => by
      show ∃ mono' num', f_Po_addFourTimes_l47 a b c (nI i) (nI j) (nI k) mono num = _ ∧ _
      unfold f_Po_addFourTimes_l47
      rw [if_neg (lt25 hk), sbe i, sbe j, sbe k, mk3 (by omega) (by omega) (by omega)]
      cases hb : bt c k
      · rw [has_f (by omega) hb, if_pos rfl]
        exact ⟨mono, num, by simp only [zlet, nI_1], PC_0 hp⟩
      · rw [has_t (by omega) hb, if_neg (by decide)]
        obtain ⟨mo, nu, h1, h2⟩ := effC_add (lo24_or (lo24_or lo24_mk lo24_mk) lo24_mk) 4 P mono num hp
        rw [h1]
        exact ⟨mo, nu, by simp only [zlet, zb2, nI_1], h2⟩)
    (fun mono num => by
      show f_Po_addFourTimes_l47 a b c (nI i) (nI j) (nI 25) mono num = _
      unfold f_Po_addFourTimes_l47
      rw [if_pos ge25])
theorem four2 {i : Nat} (hi : i < 25) (a b c : Int32) : EffC (fun mono num => zloop (fun q => f_Po_addFourTimes_l25 a b c (nI i) q.1 q.2.1 q.2.2) zF (0, mono, num)) (e4j b c (mk i)) :=
  effC_loop (step := fun q => f_Po_addFourTimes_l25 a b c (nI i) q.1 q.2.1 q.2.2) 25 (by omega) (fun j m => if bt b j then e4k c (mk i ||| mk j) m else 0)
    (fun j hj P mono num hp => by
      show ∃ mono' num', f_Po_addFourTimes_l25 a b c (nI i) (nI j) mono num = _ ∧ _
      unfold f_Po_addFourTimes_l25
      rw [if_neg (lt25 hj)]
      cases hb : bt b j
      · rw [has_f (by omega) hb, if_pos rfl]
        exact ⟨mono, num, by simp only [zlet, nI_1], PC_0 hp⟩
      · rw [has_t (by omega) hb, if_neg (by decide)]
        obtain ⟨mo, nu, h1, h2⟩ := four1 hi hj a b c P mono num hp
        have h1 : zloop (fun q => f_Po_addFourTimes_l47 a b c (nI i) (nI j) q.1 q.2.1 q.2.2) zF ((0 : Int32), mono, num) = some (mo, nu) := h1
        rw [h1]
        exact ⟨mo, nu, by simp only [zlet, zb2, nI_1], h2⟩)
    (fun mono num => by
      show f_Po_addFourTimes_l25 a b c (nI i) (nI 25) mono num = _
      unfold f_Po_addFourTimes_l25
      rw [if_pos ge25])
theorem fourC (a b c : Int32) : EffC (f_Po_addFourTimes a b c) (e4 a b c) := by
  intro P mono num hp
  unfold f_Po_addFourTimes
  obtain ⟨mo, nu, h1, h2⟩ := effC_loop (step := fun q => f_Po_addFourTimes_l3 a b c q.1 q.2.1 q.2.2) 25 (by omega) (fun i m => if bt a i then e4j b c (mk i) m else 0)
    (fun i hi P mono num hp => by
      show ∃ mono' num', f_Po_addFourTimes_l3 a b c (nI i) mono num = _ ∧ _
      unfold f_Po_addFourTimes_l3
      rw [if_neg (lt25 hi)]
      cases hb : bt a i
      · rw [has_f (by omega) hb, if_pos rfl]
        exact ⟨mono, num, by simp only [zlet, nI_1], PC_0 hp⟩
      · rw [has_t (by omega) hb, if_neg (by decide)]
        obtain ⟨mo, nu, h1, h2⟩ := four2 hi a b c P mono num hp
        have h1 : zloop (fun q => f_Po_addFourTimes_l25 a b c (nI i) q.1 q.2.1 q.2.2) zF ((0 : Int32), mono, num) = some (mo, nu) := h1
        rw [h1]
        exact ⟨mo, nu, by simp only [zlet, zb2, nI_1], h2⟩)
    (fun mono num => by
      show f_Po_addFourTimes_l3 a b c (nI 25) mono num = _
      unfold f_Po_addFourTimes_l3
      rw [if_pos ge25]) P mono num hp
  have h1 : zloop (fun q => f_Po_addFourTimes_l3 a b c q.1 q.2.1 q.2.2) zF ((0 : Int32), mono, num) = some (mo, nu) := h1
  rw [h1]
  exact ⟨mo, nu, rfl, h2⟩
