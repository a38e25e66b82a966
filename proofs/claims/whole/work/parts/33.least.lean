/-! the greatest bit of a mask; the least bit with a rule -/
/-- z is the greatest bit of x -/
def gtB (x : Int32) (z : Nat) : Prop := z < 24 ∧ bt x z = true ∧ ∀ k, z < k → k < 24 → bt x k = false
theorem gtB_of {x : Int32} (hx : lo24 x) (hne : x ≠ 0) : ∃ z, gtB x z := by
  have h1 : ∃ k, k < 24 ∧ bt x k = true := by
    apply Classical.byContradiction
    intro q
    apply hne
    apply b_ext
    intro i hi
    rw [b_0]
    by_cases h24 : i < 24
    · cases hb : bt x i
      · rfl
      · exact absurd ⟨i, h24, hb⟩ q
    · exact hx i hi (by omega)
  have key : ∀ n, n ≤ 24 → (∃ k, k < n ∧ bt x k = true) → (∀ k, n ≤ k → k < 24 → bt x k = false) → ∃ z, gtB x z := by
    intro n
    induction n with
    | zero => rintro _ ⟨k, hk, _⟩ _; omega
    | succ n ih =>
      rintro hn ⟨k, hk, hb⟩ hz
      cases hbn : bt x n
      · refine ih (by omega) ⟨k, ?_, hb⟩ (fun k' h1 h2 => ?_)
        · by_cases e : k = n
          · subst e; rw [hb] at hbn; cases hbn
          · omega
        · by_cases e : k' = n
          · subst e; exact hbn
          · exact hz k' (by omega) h2
      · exact ⟨n, by omega, hbn, fun k' h1 h2 => hz k' (by omega) h2⟩
  exact key 24 (by omega) h1 (fun k h1 h2 => by omega)
theorem gtB_one {x : Int32} {z z' : Nat} (h : gtB x z) (h' : gtB x z') : z = z' := by
  rcases Nat.lt_trichotomy z z' with q | q | q
  · have := h.2.2 z' q h'.1
    rw [h'.2.1] at this
    cases this
  · exact q
  · have := h'.2.2 z q h.1
    rw [h.2.1] at this
    cases this
theorem m1_nI {i : Nat} (h : i < 23) : nI (23 - i) + (-1) = nI (23 - (i + 1)) := by
  have e : 23 - i = (23 - (i + 1)) + 1 := by omega
  rw [e]
  exact pk_m1 _
theorem greatC {x : Int32} {z : Nat} (h : gtB x z) : f_Ps_greatestOf x = some (nI z) := by
  unfold f_Ps_greatestOf
  have hz := h.1
  obtain ⟨r, h1, h2⟩ := zloop_rel (step := fun q : Int32 => f_Ps_greatestOf_l3 x q) (I := fun i q => q = nI (23 - i)) (K := fun r => r = .inr (nI z)) (23 - z) 0 (s0 := 23) (by omega) (by omega) rfl
    (fun i q hi hq => by
      subst hq
      refine ⟨_, ?_, rfl⟩
      show f_Ps_greatestOf_l3 x (nI (23 - i)) = _
      unfold f_Ps_greatestOf_l3
      rw [if_neg (nI_pos (by omega)), has_f (by omega) (h.2.2 (23 - i) (by omega) (by omega)), if_pos rfl]
      simp only [zlet]
      rw [m1_nI (by omega)])
    (fun q hq => by
      subst hq
      refine ⟨_, ?_, rfl⟩
      show f_Ps_greatestOf_l3 x (nI (23 - (23 - z))) = _
      rw [show 23 - (23 - z) = z by omega]
      unfold f_Ps_greatestOf_l3
      rw [if_neg (nI_pos (by omega)), has_t (by omega) h.2.1, if_neg (by decide)])
  have h1 : zloop (fun q => f_Ps_greatestOf_l3 x q) zF (23 : Int32) = some r := h1
  rw [h1, h2]
  rfl
theorem greatR {x : Int32} {z : Nat} (h : gtB x z) : f_Md_greatest x = some (nI z) := by
  unfold f_Md_greatest
  have hz := h.1
  obtain ⟨r, h1, h2⟩ := zloop_rel (step := fun q : Int32 => f_Md_greatest_l3 x q) (I := fun i q => q = nI (23 - i)) (K := fun r => r = nI z) (23 - z) 0 (s0 := 23) (by omega) (by omega) rfl
    (fun i q hi hq => by
      subst hq
      refine ⟨_, ?_, rfl⟩
      show f_Md_greatest_l3 x (nI (23 - i)) = _
      unfold f_Md_greatest_l3
      rw [sh_f (by omega) (h.2.2 (23 - i) (by omega) (by omega)), if_pos rfl]
      simp only [zlet]
      rw [m1_nI (by omega)])
    (fun q hq => by
      subst hq
      refine ⟨_, ?_, rfl⟩
      show f_Md_greatest_l3 x (nI (23 - (23 - z))) = _
      rw [show 23 - (23 - z) = z by omega]
      unfold f_Md_greatest_l3
      rw [sh_t (by omega) h.2.1, if_neg (by decide)])
  have h1 : zloop (fun q => f_Md_greatest_l3 x q) zF (23 : Int32) = some r := h1
  rw [h1, h2]
  rfl
/-- the class's values and the reference's sets and constants -/
def RelW (N : Nat) (vals st cs : Nat → Int32) : Prop := (∀ w, w < 6 → Rv (vals w) (st w) (cs w) ∧ (∀ k, 25 ≤ k → k < 32 → bt (vals w) k = false) ∧ lo24 (st w) ∧ (cs w = 0 ∨ cs w = 1)) ∧ ∀ w, N ≤ w → w < 6 → vals w = 0 ∧ st w = 0 ∧ cs w = 0
theorem lt6 {i : Nat} (h : i < 6) : ¬ (6 : Int32) ≤ nI i := show ¬ nI 6 ≤ nI i from nI_ge h (by omega)
theorem ge6 : (6 : Int32) ≤ nI 6 := show nI 6 ≤ nI 6 from nI_le (Nat.le_refl 6) (by omega)
/-- y has a rule -/
def Can (P : Int32 → BitVec 3) (N : Nat) (inp th : Int32) (st : Nat → Int32) (y : Nat) : Prop := Hid N inp th st y ∧ ∃ k, KD P inp y k
theorem leastC {P : Int32 → BitVec 3} {mono : Int32} {num : Nat → Int32} (hp : PC P mono num) {N : Nat} (hN : N ≤ 6) {vals st cs : Nat → Int32} (hw : RelW N vals st cs) (inp th : Int32) :
    (∃ y k, y < 24 ∧ 1 ≤ k ∧ k ≤ 4 ∧ Hid N inp th st y ∧ KD P inp y k ∧ (∀ y', y' < y → ¬ Can P N inp th st y') ∧ f_Ps_leastBitWithRule th inp vals num = some (nI y) ∧ f_Ps_ruleFor (nI y) inp num = some (nI k)) ∨ ((∀ y, y < 24 → ¬ Can P N inp th st y) ∧ f_Ps_leastBitWithRule th inp vals num = some (-1)) := by
  unfold f_Ps_leastBitWithRule
  simp only [zlet]
  obtain ⟨cand, h1, h2⟩ := zloop_rel (step := fun q : Int32 × Int32 => f_Ps_leastBitWithRule_l14 th inp vals num q.1 q.2)
    (I := fun i q => q.2 = nI i ∧ ∀ y, y < 24 → (bt q.1 y = true ↔ (bt th y = true ∧ bt inp y = false ∧ ∀ w, w < i → bt (vals w) y = false)))
    (K := fun r => ∀ y, y < 24 → (bt r y = true ↔ (bt th y = true ∧ bt inp y = false ∧ ∀ w, w < 6 → bt (vals w) y = false))) 6 0 (s0 := (th &&& (inp ^^^ (-1)), 0)) (by omega) (by omega)
    ⟨by rw [nI_0], fun y hy => by
      rw [b_and, bt_not _ (by omega)]
      simp only [Bool.and_eq_true, Bool.not_eq_true']
      constructor
      · rintro ⟨a, b⟩; exact ⟨a, b, fun w hw => absurd hw (Nat.not_lt_zero _)⟩
      · rintro ⟨a, b, _⟩; exact ⟨a, b⟩⟩
    (fun i q hi hI => by
      obtain ⟨x, q2⟩ := q
      obtain ⟨e, hq⟩ := hI
      simp only at e hq
      subst e
      refine ⟨(x &&& (vals i ^^^ (-1)), nI (i + 1)), ?_, rfl, fun y hy => ?_⟩
      · show f_Ps_leastBitWithRule_l14 th inp vals num x (nI i) = _
        unfold f_Ps_leastBitWithRule_l14
        rw [if_neg (lt6 hi), if_neg (in_nI hi (by omega)), clampI (by omega)]
        simp only [zlet, nI_1]
      · show bt (x &&& (vals i ^^^ (-1))) y = true ↔ _
        rw [b_and, bt_not _ (by omega)]
        simp only [Bool.and_eq_true, Bool.not_eq_true']
        rw [hq y hy]
        constructor
        · rintro ⟨⟨a, b, c⟩, d⟩
          refine ⟨a, b, fun w hw => ?_⟩
          by_cases e : w = i
          · subst e; exact d
          · exact c w (by omega)
        · rintro ⟨a, b, c⟩
          exact ⟨⟨a, b, fun w hw => c w (by omega)⟩, c i (by omega)⟩)
    (fun q hI => by
      obtain ⟨x, q2⟩ := q
      obtain ⟨e, hq⟩ := hI
      simp only at e hq
      subst e
      refine ⟨x, ?_, hq⟩
      show f_Ps_leastBitWithRule_l14 th inp vals num x (nI 6) = _
      unfold f_Ps_leastBitWithRule_l14
      rw [if_pos ge6])
  have h1 : zloop (fun q => f_Ps_leastBitWithRule_l14 th inp vals num q.1 q.2) zF (th &&& (inp ^^^ (-1)), (0 : Int32)) = some cand := h1
  rw [h1]
  simp only [zb1]
  have hH : ∀ y, y < 24 → (bt cand y = true ↔ Hid N inp th st y) := by
    intro y hy
    rw [h2 y hy]
    constructor
    · rintro ⟨a, b, c⟩
      exact ⟨a, b, fun w hw' => by rw [← (hw.1 w (by omega)).1.1 y hy]; exact c w (by omega)⟩
    · rintro ⟨a, b, c⟩
      refine ⟨a, b, fun w hw6 => ?_⟩
      by_cases hwN : w < N
      · rw [(hw.1 w hw6).1.1 y hy]; exact c w hwN
      · rw [(hw.2 w (by omega) hw6).1, b_0]
  obtain ⟨r, h3, h4⟩ := zloop_rel2 (step := fun q : Int32 => f_Ps_leastBitWithRule_l39 cand th inp vals num q)
    (I := fun y q => q = nI y ∧ ∀ y', y' < y → ¬ Can P N inp th st y')
    (K := fun r => (∃ y k, y < 24 ∧ 1 ≤ k ∧ k ≤ 4 ∧ Hid N inp th st y ∧ KD P inp y k ∧ (∀ y', y' < y → ¬ Can P N inp th st y') ∧ r = .inr (nI y) ∧ f_Ps_ruleFor (nI y) inp num = some (nI k)) ∨ ((∀ y, y < 24 → ¬ Can P N inp th st y) ∧ r = .inl ())) 24 0 (s0 := 0) (by omega) (by omega)
    ⟨by rw [nI_0], fun y' h => absurd h (Nat.not_lt_zero _)⟩
    (fun y q hy hI => by
      obtain ⟨rfl, hg⟩ := hI
      have ext : ¬ Can P N inp th st y → ∀ y', y' < y + 1 → ¬ Can P N inp th st y' := by
        intro hn y' hy'
        by_cases e : y' = y
        · subst e; exact hn
        · exact hg y' (by omega)
      show (∃ s', f_Ps_leastBitWithRule_l39 cand th inp vals num (nI y) = _ ∧ _) ∨ (∃ r, f_Ps_leastBitWithRule_l39 cand th inp vals num (nI y) = _ ∧ _)
      unfold f_Ps_leastBitWithRule_l39
      rw [if_neg (lt24 hy)]
      simp only [zlet, nI_1]
      cases hb : bt cand y
      · rw [has_f (by omega) hb, if_pos rfl]
        refine Or.inl ⟨_, rfl, rfl, ext (fun q => ?_)⟩
        rw [(hH y hy).mpr q.1] at hb
        cases hb
      · rw [has_t (by omega) hb, if_neg (by decide)]
        rcases ruleC hp hy inp with ⟨k, k1, k2, hk, e⟩ | ⟨hk, e⟩
        · rw [e]
          simp only [zb1]
          rw [if_neg (by
            intro q
            have : nI k = -1 := q
            have h9 := nI_pos (n := k) (by omega)
            rw [this] at h9
            exact h9 (by decide))]
          exact Or.inr ⟨_, rfl, Or.inl ⟨y, k, hy, k1, k2, (hH y hy).mp hb, hk, hg, rfl, e⟩⟩
        · rw [e]
          simp only [zb1, if_true]
          refine Or.inl ⟨_, rfl, rfl, ext (fun q => ?_)⟩
          obtain ⟨_, k, q⟩ := q
          exact hk k q)
    (fun q hI => by
      obtain ⟨rfl, hg⟩ := hI
      refine ⟨.inl (), ?_, Or.inr ⟨hg, rfl⟩⟩
      show f_Ps_leastBitWithRule_l39 cand th inp vals num (nI 24) = _
      unfold f_Ps_leastBitWithRule_l39
      rw [if_pos ge24])
  have h3 : zloop (fun q => f_Ps_leastBitWithRule_l39 cand th inp vals num q) zF (0 : Int32) = some r := h3
  rw [h3]
  rcases h4 with ⟨y, k, a1, a2, a3, a4, a5, a6, rfl, a8⟩ | ⟨hn, rfl⟩
  · exact Or.inl ⟨y, k, a1, a2, a3, a4, a5, a6, rfl, a8⟩
  · exact Or.inr ⟨hn, rfl⟩
