/-! the places of masks, in the class and in the reference -/
theorem bt_low (x : Int32) {n : Nat} (hn : n < 32) : bt (x &&& -x) n = (bt x n && !decide (∃ j < n, bt x j = true)) := by
  rw [b_and, bt_neg x hn]
  cases bt x n <;> simp
theorem bt_drop (x : Int32) {n : Nat} (hn : n < 32) : bt (x &&& ((x &&& -x) ^^^ (-1))) n = (bt x n && decide (∃ j < n, bt x j = true)) := by
  rw [b_and, bt_not _ hn, bt_low x hn]
  cases bt x n <;> simp
theorem bt_rest (x : Int32) {n : Nat} (hn : n < 32) : bt (x &&& (x - 1)) n = (bt x n && decide (∃ j < n, bt x j = true)) := by
  rw [b_and, bt_pred x hn]
  cases bt x n <;> simp
theorem plC_at {c : Nat} {x : Int32} (h : ALLC[c]? = some x) : c < 2325 ∧ f_Po_placeOf x = nI c := by
  have hc : c < 2325 := by
    have := (List.getElem?_eq_some_iff.mp h).1
    rw [plC_len] at this
    exact this
  refine ⟨hc, ?_⟩
  have h1 : (ALLC.map f_Po_placeOf)[c]? = ((List.range 2325).map nI)[c]? := by rw [plC_tab]
  rw [List.getElem?_map, h, List.getElem?_map, List.getElem?_range hc] at h1
  exact Option.some.inj h1
theorem plC_mem {x : Int32} (h : x ∈ ALLC) : ∃ c, c < 2325 ∧ f_Po_placeOf x = nI c ∧ ALLC[c]? = some x := by
  obtain ⟨c, hc⟩ := List.mem_iff_getElem?.mp h
  exact ⟨c, (plC_at hc).1, (plC_at hc).2, hc⟩
theorem plC_out {x : Int32} (hx : lo24 x) (h : x ∉ ALLC) : f_Po_placeOf x = -1 := by
  obtain ⟨a, b, c, d, hab, hbc, hcd, hd, ba, bb, bc, bd⟩ := four_of_many (x := x) (fun q => h (all_of_few hx q))
  unfold f_Po_placeOf
  simp only [zlet]
  by_cases h0 : x < 0
  · rw [if_pos h0]
  rw [if_neg h0]
  by_cases h1 : 16777215 < x
  · rw [if_pos h1]
  rw [if_neg h1]
  rw [if_neg]
  intro hz
  have e : bt ((x &&& ((x &&& -x) ^^^ (-1))) &&& (((x &&& ((x &&& -x) ^^^ (-1))) &&& (-(x &&& ((x &&& -x) ^^^ (-1))))) ^^^ (-1)) &&& (((x &&& ((x &&& -x) ^^^ (-1))) &&& (((x &&& ((x &&& -x) ^^^ (-1))) &&& (-(x &&& ((x &&& -x) ^^^ (-1))))) ^^^ (-1))) - 1)) d = bt 0 d := congrArg (fun z => bt z d) hz
  rw [bt_rest _ (by omega), b_0, bt_drop _ (by omega), bt_drop _ (by omega)] at e
  have f1 : ∀ n, n < 32 → a < n → bt x n = true → bt (x &&& ((x &&& -x) ^^^ (-1))) n = true := by
    intro n hn han hb
    rw [bt_drop _ hn, hb]
    simp only [Bool.true_and, decide_eq_true_eq]
    exact ⟨a, han, ba⟩
  have f2 : ∀ n, n < 32 → b < n → bt x n = true → bt ((x &&& ((x &&& -x) ^^^ (-1))) &&& (((x &&& ((x &&& -x) ^^^ (-1))) &&& (-(x &&& ((x &&& -x) ^^^ (-1))))) ^^^ (-1))) n = true := by
    intro n hn hbn hb
    rw [bt_drop _ hn, f1 n hn (by omega) hb]
    simp only [Bool.true_and, decide_eq_true_eq]
    exact ⟨b, hbn, f1 b (by omega) hab bb⟩
  have g1 : decide (∃ j < d, bt x j = true) = true := by
    rw [decide_eq_true_eq]; exact ⟨c, hcd, bc⟩
  have g2 : decide (∃ j < d, bt (x &&& ((x &&& -x) ^^^ (-1))) j = true) = true := by
    rw [decide_eq_true_eq]; exact ⟨c, hcd, f1 c (by omega) (by omega) bc⟩
  have g3 : decide (∃ j < d, bt ((x &&& ((x &&& -x) ^^^ (-1))) &&& (((x &&& ((x &&& -x) ^^^ (-1))) &&& (-(x &&& ((x &&& -x) ^^^ (-1))))) ^^^ (-1))) j = true) = true := by
    rw [decide_eq_true_eq]; exact ⟨c, hcd, f2 c (by omega) (by omega) bc⟩
  rw [bd, g1, g2, g3] at e
  cases e
theorem sh1 (x : Int32) {k : Nat} (hk : k < 32) : (x >>> (nI k &&& 31)) &&& 1 = if bt x k then 1 else 0 := by
  apply b_ext
  intro i hi
  rw [b_and, b_1 i hi, b_sshr k hk x hi]
  by_cases h : i = 0
  · subst h
    simp only [Nat.add_zero, hk, if_true]
    cases hb : bt x k
    · simp; rw [b_0]
    · simp; exact b_1 0 (by omega)
  · simp only [h, decide_false, Bool.and_false]
    cases hb : bt x k
    · simp; rw [b_0]
    · simp; rw [b_1 i hi]; simp [h]
theorem ush1 (x : Int32) {k : Nat} (hk : k < 32) : (zushr x (nI k)) &&& 1 = if bt x k then 1 else 0 := by
  apply b_ext
  intro i hi
  rw [b_and, b_1 i hi]
  unfold zushr
  rw [b_ushr k hk x i]
  by_cases h : i = 0
  · subst h
    simp only [Nat.add_zero]
    cases hb : bt x k
    · simp; rw [b_0]
    · simp; exact b_1 0 (by omega)
  · simp only [h, decide_false, Bool.and_false]
    cases hb : bt x k
    · simp; rw [b_0]
    · simp; rw [b_1 i hi]; simp [h]
theorem has_eq (x : Int32) {k : Nat} (hk : k < 32) : f_Ps_has x (nI k) = if bt x k then 1 else 0 := by
  unfold f_Ps_has
  rw [ush1 x hk]
  cases bt x k
  · rfl
  · rfl
theorem lt24 {i : Nat} (h : i < 24) : ¬ (24 : Int32) ≤ nI i := show ¬ nI 24 ≤ nI i from nI_ge h (by omega)
theorem ge24 : (24 : Int32) ≤ nI 24 := show nI 24 ≤ nI 24 from nI_le (Nat.le_refl 24) (by omega)
theorem count_eq (x : Int32) : f_Md_count x = some (nI (bl x).length) := by
  unfold f_Md_count
  obtain ⟨r, h1, h2⟩ := zloop_rel (step := fun q : Int32 × Int32 => f_Md_count_l4 x q.1 q.2) (I := fun i s => s = (nI ((List.range i).filter (fun k => bt x k)).length, nI i)) (K := fun r => r = nI (bl x).length) 24 0 (s0 := (0, 0)) (by omega) (by omega) rfl
    (fun i s hi hs => by
      subst hs
      refine ⟨_, ?_, rfl⟩
      unfold f_Md_count_l4
      simp only [zlet]
      rw [if_neg (lt24 hi), sh1 x (by omega), List.range_succ, List.filter_append]
      cases hb : bt x i
      · simp [hb, nI_1]
      · simp [hb, nI_1])
    (fun s hs => by
      subst hs
      refine ⟨_, ?_, rfl⟩
      unfold f_Md_count_l4
      rw [if_pos ge24]
      rfl)
  rw [h1, h2]
  rfl
theorem plR_mem {m : Int32} (h : m ∈ ALLC) : ∃ r, r < 15625 ∧ f_Md_placeOf m = some (nI r) ∧ unR r = m := by
  have h1 := List.all_eq_true.mp plR_tab m h
  cases hp : f_Md_placeOf m with
  | none => rw [hp] at h1; simp at h1
  | some r =>
    rw [hp] at h1
    simp only [decide_eq_true_eq] at h1
    obtain ⟨j, hj, rfl⟩ := nI_of (x := r) (fun q => by
      have := Int32.lt_of_lt_of_le q h1.1
      rw [Int32.lt_iff_toInt_lt] at this
      omega)
    rw [nI_clamp hj] at h1
    exact ⟨j, (nI_ltI hj (by omega)).mp h1.2.1, rfl, h1.2.2⟩
