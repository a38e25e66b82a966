/-! what a bit is multiplied with -/
def orN (f : Nat → Int32) : Nat → Int32
  | 0 => 0
  | n + 1 => orN f n ||| f n
theorem bt_orN {f : Nat → Int32} {k : Nat} : ∀ n, bt (orN f n) k = true ↔ ∃ i, i < n ∧ bt (f i) k = true
  | 0 => by
    unfold orN
    rw [b_0]
    constructor
    · intro h; cases h
    · rintro ⟨i, hi, _⟩; omega
  | n + 1 => by
    unfold orN
    rw [b_or, Bool.or_eq_true, bt_orN n]
    constructor
    · rintro (⟨i, hi, h⟩ | h)
      · exact ⟨i, by omega, h⟩
      · exact ⟨n, by omega, h⟩
    · rintro ⟨i, hi, h⟩
      by_cases e : i = n
      · subst e; exact Or.inr h
      · exact Or.inl ⟨i, by omega, h⟩
theorem Sz_one (y : Nat) : Sz y y y = sb y := by
  unfold Sz
  apply b_ext
  intro k _
  rw [b_or, b_or]
  cases bt (sb y) k <;> rfl
theorem Sz_two (y b : Nat) : sb y ||| sb b = Sz y b b := by
  unfold Sz
  apply b_ext
  intro k _
  rw [b_or, b_or, b_or]
  cases bt (sb y) k <;> cases bt (sb b) k <;> rfl
theorem Sz_sym {y a b : Nat} : Sz y a b = Sz y b a := by
  unfold Sz
  apply b_ext
  intro k _
  rw [b_or, b_or, b_or, b_or]
  cases bt (sb y) k <;> cases bt (sb a) k <;> cases bt (sb b) k <;> rfl
/-- the bits with 4 * b * y -/
def hbP (P : Int32 → BitVec 3) (y : Nat) : Int32 := orN (fun b => if b ≠ y ∧ P (Sz y b b) = 4 then sb b else 0) 24
theorem bt_hbP {P : Int32 → BitVec 3} {y k : Nat} (hk : k < 32) : bt (hbP P y) k = true ↔ k < 24 ∧ k ≠ y ∧ P (Sz y k k) = 4 := by
  unfold hbP
  rw [bt_orN]
  constructor
  · rintro ⟨i, hi, h⟩
    by_cases hc : i ≠ y ∧ P (Sz y i i) = 4
    · rw [if_pos hc, bt_sb (by omega) hk] at h
      have : i = k := by simpa using h
      subst this
      exact ⟨hi, hc⟩
    · rw [if_neg hc, b_0] at h
      cases h
  · rintro ⟨h1, h2⟩
    exact ⟨k, h1, by rw [if_pos h2, bt_sb (by omega) hk]; simp⟩
theorem lo24_hbP (P : Int32 → BitVec 3) (y : Nat) : lo24 (hbP P y) := fun k hk h24 => by
  cases h : bt (hbP P y) k
  · rfl
  · have := (bt_hbP hk).mp h
    omega
theorem hbP_ne (P : Int32 → BitVec 3) (y : Nat) : hbP P y ≠ -1 := by
  intro q
  have h1 := lo24_hbP P y 31 (by omega) (by omega)
  rw [q, b_m1 31 (by omega)] at h1
  cases h1
/-- y is multiplied with nothing but numbers and 4 times bits -/
def goodP (P : Int32 → BitVec 3) (y : Nat) : Prop := ∀ b, b < 24 → b ≠ y → (P (Sz y b b) = 0 ∨ P (Sz y b b) = 4) ∧ ∀ c, c < b → c ≠ y → P (Sz y b c) = 0
theorem toI_4 : toI 4 = 4 := by decide
theorem toI_eq4 {b : BitVec 3} : toI b = 4 ↔ b = 4 := ⟨fun h => toI_inj (h.trans toI_4.symm), fun h => by rw [h, toI_4]⟩
/-- a product that no rule allows -/
def badP (P : Int32 → BitVec 3) (y i j : Nat) : Prop := Sz y i j ≠ sb y ∧ P (Sz y i j) ≠ 0 ∧ ¬ (P (Sz y i j) = 4 ∧ (i = y ∨ j = y ∨ i = j))
/-- what a pair comes to the partners with -/
def conP (P : Int32 → BitVec 3) (y i j : Nat) : Int32 := if Sz y i j ≠ sb y ∧ P (Sz y i j) ≠ 0 then wo (Sz y i j) y else 0
theorem part1 {P : Int32 → BitVec 3} {mono : Int32} {num : Nat → Int32} (hp : PC P mono num) {y i j : Nat} (hy : y < 24) (hi : i < 24) (hj : j ≤ i) (x : Int32) :
    (badP P y i j ∧ f_Po_partnersOf_l13 (nI y) (nI i) num x (nI j) = some (.inr (.inr (-1)))) ∨ (¬ badP P y i j ∧ f_Po_partnersOf_l13 (nI y) (nI i) num x (nI j) = some (.inl (x ||| conP P y i j, nI (j + 1)))) := by
  have e : ((1 : Int32) <<< (nI y &&& 31)) ||| ((1 : Int32) <<< (nI i &&& 31)) ||| ((1 : Int32) <<< (nI j &&& 31)) = Sz y i j := rfl
  have hS := Sz_all hy hi (show j < 24 by omega)
  have hn := numC hp hS
  have hbc := bc_Sz hy hi (show j < 24 by omega)
  unfold f_Po_partnersOf_l13
  rw [if_neg (ltI hj (by omega))]
  simp only [zlet]
  rw [e, sbe y, hn]
  simp only [zb1]
  by_cases h1 : Sz y i j = sb y
  · rw [if_pos h1]
    exact Or.inr ⟨fun q => q.1 h1, by rw [nI_1]; unfold conP; rw [if_neg (fun q => q.1 h1)]⟩
  · rw [if_neg h1]
    by_cases h2 : toI (P (Sz y i j)) = 0
    · rw [if_pos h2, if_pos h2]
      have h2' := toI_ne.mp h2
      exact Or.inr ⟨fun q => q.2.1 h2', by rw [nI_1]; unfold conP; rw [if_neg (fun q => q.2 h2')]⟩
    · rw [if_neg h2]
      have h2' : P (Sz y i j) ≠ 0 := fun q => h2 (toI_ne.mpr q)
      by_cases h3 : toI (P (Sz y i j)) = 4
      · rw [if_pos h3]
        have h3' := toI_eq4.mp h3
        by_cases h4 : f_Jint_bitCount (Sz y i j) ≤ 2
        · rw [if_pos h4, if_neg h2]
          exact Or.inr ⟨fun q => q.2.2 ⟨h3', hbc.mp h4⟩, by rw [nI_1]; unfold conP; rw [if_pos ⟨h1, h2'⟩]; rfl⟩
        · rw [if_neg h4]
          exact Or.inl ⟨⟨h1, h2', fun q => h4 (hbc.mpr q.2)⟩, rfl⟩
      · rw [if_neg h3]
        exact Or.inl ⟨⟨h1, h2', fun q => h3 (toI_eq4.mpr q.1)⟩, rfl⟩
/-- the partners of the pairs ahead of (i, j) -/
def parP (P : Int32 → BitVec 3) (y i j : Nat) : Int32 := orN (fun a => orN (conP P y a) (a + 1)) i ||| orN (conP P y i) j
theorem parP_j (P : Int32 → BitVec 3) (y i j : Nat) : parP P y i (j + 1) = parP P y i j ||| conP P y i j := by
  unfold parP
  show orN (fun a => orN (conP P y a) (a + 1)) i ||| (orN (conP P y i) j ||| conP P y i j) = _
  apply b_ext
  intro k _
  rw [b_or, b_or, b_or, b_or, Bool.or_assoc]
theorem parP_i (P : Int32 → BitVec 3) (y i : Nat) : parP P y i (i + 1) = parP P y (i + 1) 0 := by
  unfold parP
  show _ = (orN (fun a => orN (conP P y a) (a + 1)) i ||| orN (conP P y i) (i + 1)) ||| 0
  rw [or0]
theorem part2 {P : Int32 → BitVec 3} {mono : Int32} {num : Nat → Int32} (hp : PC P mono num) {y i : Nat} (hy : y < 24) (hi : i < 24) :
    (∃ j, j ≤ i ∧ badP P y i j) ∧ f_Po_partnersOf_l4 (nI y) num (parP P y i 0) (nI i) = some (.inr (.inr (-1))) ∨ (∀ j, j ≤ i → ¬ badP P y i j) ∧ f_Po_partnersOf_l4 (nI y) num (parP P y i 0) (nI i) = some (.inl (parP P y (i + 1) 0, nI (i + 1))) := by
  unfold f_Po_partnersOf_l4
  rw [if_neg (lt24 hi)]
  obtain ⟨r, h1, h2⟩ := zloop_rel2 (step := fun q : Int32 × Int32 => f_Po_partnersOf_l13 (nI y) (nI i) num q.1 q.2)
    (I := fun j q => q = (parP P y i j, nI j) ∧ ∀ j', j' < j → ¬ badP P y i j')
    (K := fun r => (r = .inl (parP P y (i + 1) 0) ∧ ∀ j, j ≤ i → ¬ badP P y i j) ∨ (r = .inr (-1) ∧ ∃ j, j ≤ i ∧ badP P y i j)) (i + 1) 0 (s0 := (parP P y i 0, 0)) (by omega) (by omega)
    ⟨by rw [nI_0], fun j' h => absurd h (Nat.not_lt_zero _)⟩
    (fun j q hj hI => by
      obtain ⟨rfl, hg⟩ := hI
      rcases part1 hp hy hi (show j ≤ i by omega) (parP P y i j) with ⟨hb, h⟩ | ⟨hb, h⟩
      · exact Or.inr ⟨_, h, Or.inr ⟨rfl, j, by omega, hb⟩⟩
      · refine Or.inl ⟨_, h, by rw [parP_j], fun j' hj' => ?_⟩
        by_cases e : j' = j
        · subst e; exact hb
        · exact hg j' (by omega))
    (fun q hI => by
      obtain ⟨rfl, hg⟩ := hI
      refine ⟨.inl (parP P y i (i + 1)), ?_, Or.inl ⟨by rw [parP_i], fun j hj => hg j (by omega)⟩⟩
      show f_Po_partnersOf_l13 (nI y) (nI i) num (parP P y i (i + 1)) (nI (i + 1)) = _
      unfold f_Po_partnersOf_l13
      rw [if_pos (gtI (by omega) (by omega))])
  have h1 : zloop (fun q => f_Po_partnersOf_l13 (nI y) (nI i) num q.1 q.2) zF (parP P y i 0, (0 : Int32)) = some r := h1
  rw [h1]
  rcases h2 with ⟨rfl, hg⟩ | ⟨rfl, hb⟩
  · exact Or.inr ⟨hg, by simp only [zs1, zlet, nI_1]⟩
  · exact Or.inl ⟨hb, by simp only [zs1]⟩
theorem good_of {P : Int32 → BitVec 3} {y : Nat} (hy : y < 24) (h : ∀ i j, i < 24 → j ≤ i → ¬ badP P y i j) : goodP P y := by
  have hne : ∀ i j, i < 24 → j ≤ i → (i ≠ y ∨ j ≠ y) → Sz y i j ≠ sb y := by
    intro i j hi hj hd q
    have h1 := (bt_Sz hy hi (show j < 24 by omega) (show i < 32 by omega)).mpr (Or.inr (Or.inl rfl))
    have h2 := (bt_Sz hy hi (show j < 24 by omega) (show j < 32 by omega)).mpr (Or.inr (Or.inr rfl))
    rw [q, bt_sb (by omega) (by omega)] at h1 h2
    simp at h1 h2
    omega
  intro b hb hby
  refine ⟨?_, fun c hc hcy => ?_⟩
  · apply Classical.byContradiction
    intro q
    exact h b b hb (Nat.le_refl _) ⟨hne b b hb (Nat.le_refl _) (Or.inl hby), fun w => q (Or.inl w), fun w => q (Or.inr w.1)⟩
  · apply Classical.byContradiction
    intro q
    exact h b c hb (by omega) ⟨hne b c hb (by omega) (Or.inl hby), q, fun w => by omega⟩
theorem bad_of {P : Int32 → BitVec 3} {y i j : Nat} (hi : i < 24) (hj : j ≤ i) (h : badP P y i j) : ¬ goodP P y := by
  intro g
  obtain ⟨h1, h2, h3⟩ := h
  by_cases e1 : i = y
  · by_cases e2 : j = y
    · exact h1 (by rw [e1, e2, Sz_one])
    · have e : Sz y i j = Sz y j j := by rw [e1]; exact Sz_sym.trans (by
        unfold Sz
        apply b_ext
        intro k _
        rw [b_or, b_or, b_or, b_or]
        cases bt (sb y) k <;> cases bt (sb j) k <;> rfl)
      rw [e] at h2 h3
      rcases (g j (by omega) e2).1 with q | q
      · exact h2 q
      · exact h3 ⟨q, Or.inl e1⟩
  · by_cases e2 : j = y
    · have e : Sz y i j = Sz y i i := by
        rw [e2]
        unfold Sz
        apply b_ext
        intro k _
        rw [b_or, b_or, b_or, b_or]
        cases bt (sb y) k <;> cases bt (sb i) k <;> rfl
      rw [e] at h2 h3
      rcases (g i hi e1).1 with q | q
      · exact h2 q
      · exact h3 ⟨q, Or.inr (Or.inl e2)⟩
    · by_cases e3 : i = j
      · subst e3
        rcases (g i hi e1).1 with q | q
        · exact h2 q
        · exact h3 ⟨q, Or.inr (Or.inr rfl)⟩
      · exact h2 ((g i hi e1).2 j (by omega) e2)
theorem par_hb {P : Int32 → BitVec 3} {y : Nat} (hy : y < 24) (g : goodP P y) : parP P y 24 0 = hbP P y := by
  have hb : ∀ a b, a < 24 → b ≤ a → ¬ badP P y a b := fun a b ha hba q => bad_of ha hba q g
  apply b_ext
  intro k hk
  have h1 : bt (parP P y 24 0) k = true ↔ ∃ a, a < 24 ∧ ∃ b, b < a + 1 ∧ bt (conP P y a b) k = true := by
    unfold parP
    show bt (orN (fun a => orN (conP P y a) (a + 1)) 24 ||| 0) k = true ↔ _
    rw [or0, bt_orN]
    constructor
    · rintro ⟨a, ha, h⟩
      exact ⟨a, ha, (bt_orN (a + 1)).mp h⟩
    · rintro ⟨a, ha, h⟩
      exact ⟨a, ha, (bt_orN (a + 1)).mpr h⟩
  have h2 := bt_hbP (P := P) (y := y) hk
  have key : (∃ a, a < 24 ∧ ∃ b, b < a + 1 ∧ bt (conP P y a b) k = true) ↔ (k < 24 ∧ k ≠ y ∧ P (Sz y k k) = 4) := by
    constructor
    · rintro ⟨a, ha, b, hba, h⟩
      unfold conP at h
      by_cases hc : Sz y a b ≠ sb y ∧ P (Sz y a b) ≠ 0
      · rw [if_pos hc, bt_wo _ hy hk] at h
        simp only [Bool.and_eq_true, decide_eq_true_eq] at h
        obtain ⟨h3, h4⟩ := h
        have h5 := (bt_Sz hy ha (show b < 24 by omega) hk).mp h3
        have h6 : P (Sz y a b) = 4 ∧ (a = y ∨ b = y ∨ a = b) := by
          apply Classical.byContradiction
          intro q
          exact hb a b ha (by omega) ⟨hc.1, hc.2, q⟩
        refine ⟨by omega, h4, ?_⟩
        have e : Sz y a b = Sz y k k := Sz_ext hy ha (by omega) (by omega) (by omega) (fun n => by omega)
        rw [← e]
        exact h6.1
      · rw [if_neg hc, b_0] at h
        cases h
    · rintro ⟨h3, h4, h5⟩
      refine ⟨k, h3, k, by omega, ?_⟩
      unfold conP
      have hne : Sz y k k ≠ sb y := by
        intro q
        have h1 := (bt_Sz hy h3 h3 hk).mpr (Or.inr (Or.inl rfl))
        rw [q, bt_sb (by omega) hk] at h1
        simp at h1
        omega
      rw [if_pos ⟨hne, by rw [h5]; decide⟩, bt_wo _ hy hk, (bt_Sz hy h3 h3 hk).mpr (Or.inr (Or.inl rfl))]
      simp [h4]
  have h3 := h1.trans (key.trans h2.symm)
  cases e1 : bt (parP P y 24 0) k <;> cases e2 : bt (hbP P y) k <;> simp_all
theorem partC {P : Int32 → BitVec 3} {mono : Int32} {num : Nat → Int32} (hp : PC P mono num) {y : Nat} (hy : y < 24) : (goodP P y ∧ f_Po_partnersOf (nI y) num = some (hbP P y)) ∨ (¬ goodP P y ∧ f_Po_partnersOf (nI y) num = some (-1)) := by
  unfold f_Po_partnersOf
  obtain ⟨r, h1, h2⟩ := zloop_rel2 (step := fun q : Int32 × Int32 => f_Po_partnersOf_l4 (nI y) num q.1 q.2)
    (I := fun i q => q = (parP P y i 0, nI i) ∧ ∀ i' j, i' < i → j ≤ i' → ¬ badP P y i' j)
    (K := fun r => (r = .inl (hbP P y) ∧ goodP P y) ∨ (r = .inr (-1) ∧ ¬ goodP P y)) 24 0 (s0 := (0, 0)) (by omega) (by omega)
    ⟨by rw [nI_0]; show ((0 : Int32), (0 : Int32)) = ((0 : Int32) ||| 0, 0); rw [or0], fun i' j h => absurd h (Nat.not_lt_zero _)⟩
    (fun i q hi hI => by
      obtain ⟨rfl, hg⟩ := hI
      rcases part2 hp hy hi with ⟨⟨j, hj, hb⟩, h⟩ | ⟨hb, h⟩
      · exact Or.inr ⟨_, h, Or.inr ⟨rfl, bad_of hi hj hb⟩⟩
      · refine Or.inl ⟨_, h, rfl, fun i' j hi' hj => ?_⟩
        by_cases e : i' = i
        · subst e; exact hb j hj
        · exact hg i' j (by omega) hj)
    (fun q hI => by
      obtain ⟨rfl, hg⟩ := hI
      have g := good_of hy (fun i j hi hj => hg i j hi hj)
      refine ⟨.inl (parP P y 24 0), ?_, Or.inl ⟨by rw [par_hb hy g], g⟩⟩
      show f_Po_partnersOf_l4 (nI y) num (parP P y 24 0) (nI 24) = _
      unfold f_Po_partnersOf_l4
      rw [if_pos ge24])
  have h1 : zloop (fun q => f_Po_partnersOf_l4 (nI y) num q.1 q.2) zF ((0 : Int32), (0 : Int32)) = some r := h1
  rw [h1]
  rcases h2 with ⟨rfl, g⟩ | ⟨rfl, g⟩
  · exact Or.inl ⟨g, rfl⟩
  · exact Or.inr ⟨g, rfl⟩
