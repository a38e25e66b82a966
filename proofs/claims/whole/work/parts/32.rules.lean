/-! which rule can be done for a bit: the class and the reference -/
theorem b3_cases : ∀ b : BitVec 3, b = 0 ∨ b = 1 ∨ b = 2 ∨ b = 3 ∨ b = 4 ∨ b = 5 ∨ b = 6 ∨ b = 7 := by decide
/-- the rule k can be done for y, as far as the polynomial says -/
def KD (P : Int32 → BitVec 3) (inp : Int32) (y k : Nat) : Prop := goodP P y ∧ ((k = 1 ∧ hbP P y = 0 ∧ P (sb y) = 0) ∨ (k = 2 ∧ hbP P y = 0 ∧ P (sb y) = 4) ∨ (k = 4 ∧ (P (sb y) = 2 ∨ P (sb y) = 6)) ∨ (k = 3 ∧ (P (sb y) = 0 ∨ P (sb y) = 4) ∧ hbP P y &&& (inp ^^^ (-1)) ≠ 0))
theorem ruleC {P : Int32 → BitVec 3} {mono : Int32} {num : Nat → Int32} (hp : PC P mono num) {y : Nat} (hy : y < 24) (inp : Int32) : (∃ k, 1 ≤ k ∧ k ≤ 4 ∧ KD P inp y k ∧ f_Ps_ruleFor (nI y) inp num = some (nI k)) ∨ ((∀ k, ¬ KD P inp y k) ∧ f_Ps_ruleFor (nI y) inp num = some (-1)) := by
  unfold f_Ps_ruleFor
  rw [sbe y, numC hp (all_1 hy)]
  simp only [zb1]
  have e0 : ∀ x, f_Ps_has x 0 = f_Ps_has x (nI 0) := fun x => by rw [nI_0]
  have odd : ∀ (v : BitVec 3), P (sb y) = v → (v ≠ 0 ∧ v ≠ 2 ∧ v ≠ 4 ∧ v ≠ 6) → ∀ k, ¬ KD P inp y k := by
    rintro v hv ⟨n0, n2, n4, n6⟩ k ⟨_, h | h | h | h⟩
    · exact n0 (hv ▸ h.2.2)
    · exact n4 (hv ▸ h.2.2)
    · rcases h.2 with q | q
      · exact n2 (hv ▸ q)
      · exact n6 (hv ▸ q)
    · rcases h.2.1 with q | q
      · exact n0 (hv ▸ q)
      · exact n4 (hv ▸ q)
  rcases partC hp hy with ⟨g, hpa⟩ | ⟨g, hpa⟩
  · rw [hpa]
    simp only [zb1]
    rw [if_neg (hbP_ne P y)]
    rcases b3_cases (P (sb y)) with h | h | h | h | h | h | h | h <;> rw [h]
    · rw [if_pos (show f_Ps_has (toI 0) 0 = 0 by decide), if_pos (show f_Ps_has (toI 0) 1 = 0 by decide)]
      by_cases hb : hbP P y = 0
      · rw [if_pos hb, if_pos (show toI 0 = 0 by decide)]
        exact Or.inl ⟨1, by omega, by omega, ⟨g, Or.inl ⟨rfl, hb, h⟩⟩, rfl⟩
      · rw [if_neg hb]
        by_cases hi : hbP P y &&& (inp ^^^ (-1)) = 0
        · rw [if_pos hi]
          refine Or.inr ⟨?_, rfl⟩
          rintro k ⟨_, q | q | q | q⟩
          · exact hb q.2.1
          · exact hb q.2.1
          · rcases q.2 with w | w <;> rw [h] at w <;> exact absurd w (by decide)
          · exact q.2.2 hi
        · rw [if_neg hi]
          exact Or.inl ⟨3, by omega, by omega, ⟨g, Or.inr (Or.inr (Or.inr ⟨rfl, Or.inl h, hi⟩))⟩, rfl⟩
    · rw [if_neg (show ¬ f_Ps_has (toI 1) 0 = 0 by decide)]
      exact Or.inr ⟨odd 1 h (by decide), rfl⟩
    · rw [if_pos (show f_Ps_has (toI 2) 0 = 0 by decide), if_neg (show ¬ f_Ps_has (toI 2) 1 = 0 by decide)]
      exact Or.inl ⟨4, by omega, by omega, ⟨g, Or.inr (Or.inr (Or.inl ⟨rfl, Or.inl h⟩))⟩, rfl⟩
    · rw [if_neg (show ¬ f_Ps_has (toI 3) 0 = 0 by decide)]
      exact Or.inr ⟨odd 3 h (by decide), rfl⟩
    · rw [if_pos (show f_Ps_has (toI 4) 0 = 0 by decide), if_pos (show f_Ps_has (toI 4) 1 = 0 by decide)]
      by_cases hb : hbP P y = 0
      · rw [if_pos hb, if_neg (show ¬ toI 4 = 0 by decide)]
        exact Or.inl ⟨2, by omega, by omega, ⟨g, Or.inr (Or.inl ⟨rfl, hb, h⟩)⟩, rfl⟩
      · rw [if_neg hb]
        by_cases hi : hbP P y &&& (inp ^^^ (-1)) = 0
        · rw [if_pos hi]
          refine Or.inr ⟨?_, rfl⟩
          rintro k ⟨_, q | q | q | q⟩
          · exact hb q.2.1
          · exact hb q.2.1
          · rcases q.2 with w | w <;> rw [h] at w <;> exact absurd w (by decide)
          · exact q.2.2 hi
        · rw [if_neg hi]
          exact Or.inl ⟨3, by omega, by omega, ⟨g, Or.inr (Or.inr (Or.inr ⟨rfl, Or.inr h, hi⟩))⟩, rfl⟩
    · rw [if_neg (show ¬ f_Ps_has (toI 5) 0 = 0 by decide)]
      exact Or.inr ⟨odd 5 h (by decide), rfl⟩
    · rw [if_pos (show f_Ps_has (toI 6) 0 = 0 by decide), if_neg (show ¬ f_Ps_has (toI 6) 1 = 0 by decide)]
      exact Or.inl ⟨4, by omega, by omega, ⟨g, Or.inr (Or.inr (Or.inl ⟨rfl, Or.inr h⟩))⟩, rfl⟩
    · rw [if_neg (show ¬ f_Ps_has (toI 7) 0 = 0 by decide)]
      exact Or.inr ⟨odd 7 h (by decide), rfl⟩
  · rw [hpa]
    simp only [zb1, if_true]
    refine Or.inr ⟨fun k q => g q.1, ?_⟩
    split <;> rfl
/-- the reference's search for products with y, b fixed -/
theorem fac1 {P : Int32 → BitVec 3} {num : Nat → Int32} (hp : PR P num) {y b : Nat} (hy : y < 24) (hb : b < 24) (al h : Int32) :
    ((∀ c, c < b → c ≠ y → P (Sz y b c) = 0) ∧ zloop (fun q => f_Md_findFactor_l75 (nI y) (nI b) al h num q) zF 0 = some (.inl ())) ∨ ((∃ c, c < b ∧ c ≠ y ∧ P (Sz y b c) ≠ 0) ∧ zloop (fun q => f_Md_findFactor_l75 (nI y) (nI b) al h num q) zF 0 = some (.inr (0, al, h))) := by
  obtain ⟨r, h1, h2⟩ := zloop_rel2 (step := fun q : Int32 => f_Md_findFactor_l75 (nI y) (nI b) al h num q)
    (I := fun j q => q = nI j ∧ ∀ c, c < j → c ≠ y → P (Sz y b c) = 0)
    (K := fun r => (r = .inl () ∧ ∀ c, c < b → c ≠ y → P (Sz y b c) = 0) ∨ (r = .inr (0, al, h) ∧ ∃ c, c < b ∧ c ≠ y ∧ P (Sz y b c) ≠ 0)) b 0 (s0 := 0) (by omega) (by omega)
    ⟨by rw [nI_0], fun c hc => absurd hc (Nat.not_lt_zero _)⟩
    (fun j q hj hI => by
      obtain ⟨rfl, hg⟩ := hI
      have eqz : nI j = nI y ↔ j = y := nI_eq (by omega) (by omega)
      show (∃ s', f_Md_findFactor_l75 (nI y) (nI b) al h num (nI j) = _ ∧ _) ∨ (∃ r, f_Md_findFactor_l75 (nI y) (nI b) al h num (nI j) = _ ∧ _)
      unfold f_Md_findFactor_l75
      rw [if_neg (nI_ge hj (by omega))]
      simp only [zlet, nI_1]
      by_cases e : j = y
      · rw [if_pos (eqz.mpr e)]
        refine Or.inl ⟨_, rfl, rfl, fun c hc hcy => ?_⟩
        by_cases e2 : c = j
        · exact absurd (e2.trans e) hcy
        · exact hg c (by omega) hcy
      · rw [if_neg (fun q => e (eqz.mp q))]
        have e3 : ((1 : Int32) <<< (nI y &&& 31)) ||| ((1 : Int32) <<< (nI b &&& 31)) ||| ((1 : Int32) <<< (nI j &&& 31)) = Sz y b j := rfl
        rw [e3, numR hp (Sz_all hy hb (by omega))]
        simp only [zb1]
        by_cases h0 : toI (P (Sz y b j)) = 0
        · rw [if_pos h0]
          refine Or.inl ⟨_, rfl, rfl, fun c hc hcy => ?_⟩
          by_cases e2 : c = j
          · subst e2; exact toI_ne.mp h0
          · exact hg c (by omega) hcy
        · rw [if_neg h0]
          exact Or.inr ⟨_, rfl, Or.inr ⟨rfl, j, hj, e, fun q => h0 (toI_ne.mpr q)⟩⟩)
    (fun q hI => by
      obtain ⟨rfl, hg⟩ := hI
      refine ⟨.inl (), ?_, Or.inl ⟨rfl, hg⟩⟩
      show f_Md_findFactor_l75 (nI y) (nI b) al h num (nI b) = _
      unfold f_Md_findFactor_l75
      rw [if_pos (nI_le (Nat.le_refl b) (by omega))])
  rcases h2 with ⟨rfl, hg⟩ | ⟨rfl, hg⟩
  · exact Or.inl ⟨hg, h1⟩
  · exact Or.inr ⟨hg, h1⟩
/-- the bits with 4 * b * y, below n -/
def hbN (P : Int32 → BitVec 3) (y n : Nat) : Int32 := orN (fun b => if b ≠ y ∧ P (Sz y b b) = 4 then sb b else 0) n
def goodN (P : Int32 → BitVec 3) (y n : Nat) : Prop := ∀ b, b < n → b ≠ y → (P (Sz y b b) = 0 ∨ P (Sz y b b) = 4) ∧ ∀ c, c < b → c ≠ y → P (Sz y b c) = 0
theorem fac2 {P : Int32 → BitVec 3} {num : Nat → Int32} (hp : PR P num) {y b : Nat} (hy : y < 24) (hb : b < 24) (al : Int32) (hg : goodN P y b) :
    (goodN P y (b + 1) ∧ f_Md_findFactor_l18 (nI y) al num (nI b) (hbN P y b) = some (.inl (nI (b + 1), hbN P y (b + 1)))) ∨ (¬ goodP P y ∧ ∃ h', f_Md_findFactor_l18 (nI y) al num (nI b) (hbN P y b) = some (.inr (.inr (0, al, h')))) := by
  have eqz : nI b = nI y ↔ b = y := nI_eq (by omega) (by omega)
  have hlast : hbN P y (b + 1) = hbN P y b ||| (if b ≠ y ∧ P (Sz y b b) = 4 then sb b else 0) := rfl
  unfold f_Md_findFactor_l18
  rw [if_neg (lt24 hb)]
  simp only [zlet, nI_1]
  by_cases e : b = y
  · rw [if_pos (eqz.mpr e)]
    refine Or.inl ⟨fun b' hb' hne => ?_, ?_⟩
    · by_cases e2 : b' = b
      · exact absurd (e2.trans e) hne
      · exact hg b' (by omega) hne
    · rw [hlast, if_neg (fun q => q.1 e), or0]
  · rw [if_neg (fun q => e (eqz.mp q)), sbe y, sbe b, Sz_two, numR hp (Sz_all hy hb hb)]
    simp only [zb1]
    have ext : (P (Sz y b b) = 0 ∨ P (Sz y b b) = 4) → (∀ c, c < b → c ≠ y → P (Sz y b c) = 0) → goodN P y (b + 1) := by
      intro q1 q2 b' hb' hne
      by_cases e2 : b' = b
      · subst e2; exact ⟨q1, q2⟩
      · exact hg b' (by omega) hne
    by_cases h0 : toI (P (Sz y b b)) = 0
    · rw [if_pos h0, if_neg (by rw [h0]; decide)]
      have h0' := toI_ne.mp h0
      rcases fac1 hp hy hb al (hbN P y b) with ⟨hz, hl⟩ | ⟨⟨c, hc, hcy, hcn⟩, hl⟩
      · have hl : zloop (fun q => f_Md_findFactor_l75 (nI y) (nI b) al (hbN P y b) num q) zF (0 : Int32) = some (.inl ()) := hl
        rw [hl]
        refine Or.inl ⟨ext (Or.inl h0') hz, ?_⟩
        rw [hlast, if_neg (fun q => by rw [h0'] at q; exact absurd q.2 (by decide)), or0]
        simp only [zs0]
      · have hl : zloop (fun q => f_Md_findFactor_l75 (nI y) (nI b) al (hbN P y b) num q) zF (0 : Int32) = some (.inr (0, al, hbN P y b)) := hl
        rw [hl]
        exact Or.inr ⟨fun g => hcn ((g b hb e).2 c hc hcy), _, rfl⟩
    · rw [if_neg h0]
      by_cases h4 : toI (P (Sz y b b)) = 4
      · rw [if_pos h4, if_pos h4]
        have h4' := toI_eq4.mp h4
        rcases fac1 hp hy hb al (hbN P y b ||| sb b) with ⟨hz, hl⟩ | ⟨⟨c, hc, hcy, hcn⟩, hl⟩
        · have hl : zloop (fun q => f_Md_findFactor_l75 (nI y) (nI b) al (hbN P y b ||| sb b) num q) zF (0 : Int32) = some (.inl ()) := hl
          rw [hl]
          refine Or.inl ⟨ext (Or.inr h4') hz, ?_⟩
          rw [hlast, if_pos ⟨e, h4'⟩]
          simp only [zs0]
        · have hl : zloop (fun q => f_Md_findFactor_l75 (nI y) (nI b) al (hbN P y b ||| sb b) num q) zF (0 : Int32) = some (.inr (0, al, hbN P y b ||| sb b)) := hl
          rw [hl]
          exact Or.inr ⟨fun g => hcn ((g b hb e).2 c hc hcy), _, rfl⟩
      · rw [if_neg h4]
        refine Or.inr ⟨fun g => ?_, _, rfl⟩
        rcases (g b hb e).1 with q | q
        · exact h0 (toI_ne.mpr q)
        · exact h4 (toI_eq4.mpr q)
theorem facR {P : Int32 → BitVec 3} {num : Nat → Int32} (hp : PR P num) {y : Nat} (hy : y < 24) (al0 h0 : Int32) :
    (goodP P y ∧ f_Md_findFactor (nI y) al0 h0 num = some (1, toI (P (sb y)), hbP P y)) ∨ (¬ goodP P y ∧ ∃ h', f_Md_findFactor (nI y) al0 h0 num = some (0, toI (P (sb y)), h')) := by
  unfold f_Md_findFactor
  rw [sbe y, numR hp (all_1 hy)]
  simp only [zb1]
  obtain ⟨r, h1, h2⟩ := zloop_rel2 (step := fun q : Int32 × Int32 => f_Md_findFactor_l18 (nI y) (toI (P (sb y))) num q.1 q.2)
    (I := fun b q => q = (nI b, hbN P y b) ∧ goodN P y b)
    (K := fun r => (r = .inl (hbP P y) ∧ goodP P y) ∨ (¬ goodP P y ∧ ∃ h', r = .inr (0, toI (P (sb y)), h'))) 24 0 (s0 := (0, 0)) (by omega) (by omega)
    ⟨by rw [nI_0]; rfl, fun b hb => absurd hb (Nat.not_lt_zero _)⟩
    (fun b q hb hI => by
      obtain ⟨rfl, hg⟩ := hI
      rcases fac2 hp hy hb (toI (P (sb y))) hg with ⟨hg', h⟩ | ⟨hg', h', h⟩
      · exact Or.inl ⟨_, h, rfl, hg'⟩
      · exact Or.inr ⟨_, h, Or.inr ⟨hg', h', rfl⟩⟩)
    (fun q hI => by
      obtain ⟨rfl, hg⟩ := hI
      refine ⟨.inl (hbN P y 24), ?_, Or.inl ⟨rfl, hg⟩⟩
      show f_Md_findFactor_l18 (nI y) (toI (P (sb y))) num (nI 24) (hbN P y 24) = _
      unfold f_Md_findFactor_l18
      rw [if_pos ge24])
  have h1 : zloop (fun q => f_Md_findFactor_l18 (nI y) (toI (P (sb y))) num q.1 q.2) zF ((0 : Int32), (0 : Int32)) = some r := h1
  rw [h1]
  rcases h2 with ⟨rfl, g⟩ | ⟨g, h', rfl⟩
  · exact Or.inl ⟨g, rfl⟩
  · exact Or.inr ⟨g, h', rfl⟩
/-- a bit that is there, no input, in no value -/
def Hid (N : Nat) (inp th : Int32) (st : Nat → Int32) (y : Nat) : Prop := bt th y = true ∧ bt inp y = false ∧ ∀ w, w < N → bt (st w) y = false
theorem hidR {N : Nat} (hN : N ≤ 6) (op th : Int32) (st : Nat → Int32) {y : Nat} (hy : y < 24) :
    (Hid N (f_Md_inputs (nI N) op) th st y ∧ f_Md_isHidden (nI y) (nI N) op th st = some 1) ∨ (¬ Hid N (f_Md_inputs (nI N) op) th st y ∧ f_Md_isHidden (nI y) (nI N) op th st = some 0) := by
  unfold f_Md_isHidden
  cases h1 : bt th y
  · rw [sh_f (by omega) h1, if_pos rfl]
    exact Or.inr ⟨fun q => (by rw [q.1] at h1; cases h1), rfl⟩
  rw [sh_t (by omega) h1, if_neg (by decide)]
  cases h2 : bt (f_Md_inputs (nI N) op) y
  · rw [sh_f (by omega) h2, if_neg (by decide)]
    obtain ⟨r, h3, h4⟩ := zloop_rel2 (step := fun q : Int32 => f_Md_isHidden_l27 (nI y) (nI N) op th st q)
      (I := fun j q => q = nI j ∧ ∀ w, w < j → bt (st w) y = false)
      (K := fun r => (r = .inl () ∧ ∀ w, w < N → bt (st w) y = false) ∨ (r = .inr 0 ∧ ∃ w, w < N ∧ bt (st w) y = true)) N 0 (s0 := 0) (by omega) (by omega)
      ⟨by rw [nI_0], fun w hw => absurd hw (Nat.not_lt_zero _)⟩
      (fun w q hw hI => by
        obtain ⟨rfl, hg⟩ := hI
        show (∃ s', f_Md_isHidden_l27 (nI y) (nI N) op th st (nI w) = _ ∧ _) ∨ (∃ r, f_Md_isHidden_l27 (nI y) (nI N) op th st (nI w) = _ ∧ _)
        unfold f_Md_isHidden_l27
        rw [if_neg (nI_ge hw (by omega)), if_neg (in_nI (show w < 6 by omega) (by omega)), clampI (by omega)]
        cases hb : bt (st w) y
        · rw [sh_f (by omega) hb, if_neg (by decide)]
          refine Or.inl ⟨nI (w + 1), by simp only [zlet, nI_1], rfl, fun w' hw' => ?_⟩
          by_cases e : w' = w
          · subst e; exact hb
          · exact hg w' (by omega)
        · rw [sh_t (by omega) hb, if_pos rfl]
          exact Or.inr ⟨_, rfl, Or.inr ⟨rfl, w, hw, hb⟩⟩)
      (fun q hI => by
        obtain ⟨rfl, hg⟩ := hI
        refine ⟨.inl (), ?_, Or.inl ⟨rfl, hg⟩⟩
        show f_Md_isHidden_l27 (nI y) (nI N) op th st (nI N) = _
        unfold f_Md_isHidden_l27
        rw [if_pos (nI_le (Nat.le_refl N) (by omega))])
    have h3 : zloop (fun q => f_Md_isHidden_l27 (nI y) (nI N) op th st q) zF (0 : Int32) = some r := h3
    rw [h3]
    rcases h4 with ⟨rfl, hg⟩ | ⟨rfl, w, hw, hb⟩
    · exact Or.inl ⟨⟨h1, h2, hg⟩, rfl⟩
    · exact Or.inr ⟨fun q => (by rw [q.2.2 w hw] at hb; cases hb), rfl⟩
  · rw [sh_t (by omega) h2, if_pos rfl]
    exact Or.inr ⟨fun q => (by rw [q.2.1] at h2; cases h2), rfl⟩
/-- the reference's rule for y -/
theorem ruleR {P : Int32 → BitVec 3} {num : Nat → Int32} (hp : PR P num) {N : Nat} (hN : N ≤ 6) (op th : Int32) (st : Nat → Int32) {y : Nat} (hy : y < 24) (al0 h0 : Int32) :
    (∃ k, 1 ≤ k ∧ k ≤ 4 ∧ Hid N (f_Md_inputs (nI N) op) th st y ∧ KD P (f_Md_inputs (nI N) op) y k ∧ f_Md_ruleFor (nI y) (nI N) op th al0 h0 st num = some (nI k, toI (P (sb y)), hbP P y)) ∨ ((¬ Hid N (f_Md_inputs (nI N) op) th st y ∨ ∀ k, ¬ KD P (f_Md_inputs (nI N) op) y k) ∧ ∃ al h, f_Md_ruleFor (nI y) (nI N) op th al0 h0 st num = some (0, al, h)) := by
  unfold f_Md_ruleFor
  rcases hidR hN op th st hy with ⟨hh, e⟩ | ⟨hh, e⟩
  · rw [e]
    simp only [zb1]
    rw [if_neg (by decide)]
    rcases facR hp hy al0 h0 with ⟨g, e2⟩ | ⟨g, h', e2⟩
    · rw [e2]
      simp only [zb3]
      rw [if_neg (by decide)]
      generalize hinp : f_Md_inputs (nI N) op = inp
      have odd : ∀ (v : BitVec 3), P (sb y) = v → (v ≠ 0 ∧ v ≠ 2 ∧ v ≠ 4 ∧ v ≠ 6) → ∀ k, ¬ KD P inp y k := by
        rintro v hv ⟨n0, n2, n4, n6⟩ k ⟨_, h | h | h | h⟩
        · exact n0 (hv ▸ h.2.2)
        · exact n4 (hv ▸ h.2.2)
        · rcases h.2 with q | q
          · exact n2 (hv ▸ q)
          · exact n6 (hv ▸ q)
        · rcases h.2.1 with q | q
          · exact n0 (hv ▸ q)
          · exact n4 (hv ▸ q)
      have tail : ∀ (v : BitVec 3), (v = 0 ∨ v = 4) → P (sb y) = v → hbP P y ≠ 0 → (∃ k, 1 ≤ k ∧ k ≤ 4 ∧ Hid N inp th st y ∧ KD P inp y k ∧ f_Md_ruleFor_j34 (nI N) op th (toI v) (hbP P y) st num = some (nI k, toI v, hbP P y)) ∨ ((¬ Hid N inp th st y ∨ ∀ k, ¬ KD P inp y k) ∧ ∃ al h, f_Md_ruleFor_j34 (nI N) op th (toI v) (hbP P y) st num = some (0, al, h)) := by
        intro v hv hP hb
        unfold f_Md_ruleFor_j34 f_Md_ruleFor_j51 f_Md_ruleFor_j85 f_Md_ruleFor_j90
        rw [if_neg hb, hinp]
        have a2 : ¬ toI v = 2 := by rcases hv with rfl | rfl <;> decide
        have a6 : ¬ toI v = 6 := by rcases hv with rfl | rfl <;> decide
        rw [if_neg a2, if_neg a6, if_neg (show ¬ (1 : Int32) = 0 by decide)]
        by_cases hi : hbP P y &&& (inp ^^^ (-1)) = 0
        · refine Or.inr ⟨Or.inr ?_, ?_⟩
          · rintro k ⟨_, q | q | q | q⟩
            · exact hb q.2.1
            · exact hb q.2.1
            · rcases q.2 with w | w <;> rw [hP] at w <;> rcases hv with rfl | rfl <;> exact absurd w (by decide)
            · exact q.2.2 hi
          · rw [if_pos hi]
            rcases hv with rfl | rfl
            · exact ⟨_, _, by rw [if_pos (by decide)]⟩
            · exact ⟨_, _, by rw [if_neg (by decide), if_pos (by decide)]⟩
        · refine Or.inl ⟨3, by omega, by omega, hinp ▸ hh, ⟨g, Or.inr (Or.inr (Or.inr ⟨rfl, by rw [hP]; exact hv, hi⟩))⟩, ?_⟩
          rw [if_neg hi]
          rcases hv with rfl | rfl
          · rw [if_pos (by decide)]; rfl
          · rw [if_neg (by decide), if_pos (by decide)]; rfl
      have tail2 : ∀ (v : BitVec 3), (v = 2 ∨ v = 6) → P (sb y) = v → f_Md_ruleFor_j34 (nI N) op th (toI v) (hbP P y) st num = some (nI 4, toI v, hbP P y) := by
        intro v hv hP
        unfold f_Md_ruleFor_j34 f_Md_ruleFor_j51
        rcases hv with rfl | rfl
        · rw [if_neg (show ¬ toI 2 = 4 by decide), if_pos (show toI 2 = 2 by decide)]
          split <;> rfl
        · rw [if_neg (show ¬ toI 6 = 4 by decide), if_neg (show ¬ toI 6 = 2 by decide), if_pos (show toI 6 = 6 by decide)]
          split <;> rfl
      have tail3 : ∀ (v : BitVec 3), (v ≠ 0 ∧ v ≠ 2 ∧ v ≠ 4 ∧ v ≠ 6) → f_Md_ruleFor_j34 (nI N) op th (toI v) (hbP P y) st num = some (0, toI v, hbP P y) := by
        rintro v ⟨n0, n2, n4, n6⟩
        have i0 : ¬ toI v = 0 := fun q => n0 (toI_ne.mp q)
        have i2 : ¬ toI v = 2 := fun q => n2 (toI_inj (q.trans (by decide)))
        have i4 : ¬ toI v = 4 := fun q => n4 (toI_eq4.mp q)
        have i6 : ¬ toI v = 6 := fun q => n6 (toI_inj (q.trans (by decide)))
        unfold f_Md_ruleFor_j34 f_Md_ruleFor_j51 f_Md_ruleFor_j90
        rw [if_neg i4, if_neg i2, if_neg i6, if_neg i0, if_neg i4, if_pos rfl]
        split <;> rfl
      by_cases h0 : P (sb y) = 0
      · rw [h0]
        by_cases hb : hbP P y = 0
        · rw [if_pos hb, if_pos (show toI 0 = 0 by decide)]
          exact Or.inl ⟨1, by omega, by omega, hinp ▸ hh, ⟨g, Or.inl ⟨rfl, hb, h0⟩⟩, rfl⟩
        · rw [if_neg hb]
          exact tail 0 (Or.inl rfl) h0 hb
      · have i0 : ¬ toI (P (sb y)) = 0 := fun q => h0 (toI_ne.mp q)
        rw [if_neg i0, ite_self]
        by_cases h4 : P (sb y) = 4
        · rw [h4]
          by_cases hb : hbP P y = 0
          · refine Or.inl ⟨2, by omega, by omega, hinp ▸ hh, ⟨g, Or.inr (Or.inl ⟨rfl, hb, h4⟩)⟩, ?_⟩
            unfold f_Md_ruleFor_j34
            rw [if_pos hb, if_pos (show toI 4 = 4 by decide)]
            rfl
          · exact tail 4 (Or.inr rfl) h4 hb
        · by_cases h26 : P (sb y) = 2 ∨ P (sb y) = 6
          · refine Or.inl ⟨4, by omega, by omega, hinp ▸ hh, ⟨g, Or.inr (Or.inr (Or.inl ⟨rfl, h26⟩))⟩, ?_⟩
            exact tail2 _ h26 rfl
          · have hn : P (sb y) ≠ 0 ∧ P (sb y) ≠ 2 ∧ P (sb y) ≠ 4 ∧ P (sb y) ≠ 6 := ⟨h0, fun q => h26 (Or.inl q), h4, fun q => h26 (Or.inr q)⟩
            exact Or.inr ⟨Or.inr (odd _ rfl hn), _, _, tail3 _ hn⟩
    · rw [e2]
      simp only [zb3, if_true]
      exact Or.inr ⟨Or.inr (fun k q => g q.1), _, _, rfl⟩
  · rw [e]
    simp only [zb1, if_true]
    exact Or.inr ⟨Or.inl hh, _, _, rfl⟩
