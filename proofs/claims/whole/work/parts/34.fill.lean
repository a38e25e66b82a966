/-! rows filled, sums emptied, a bit replaced in the values -/
theorem fill_eq {n : Nat} (hn : n < 100000) (v : Int32) (f : Nat → Int32) : f_Jarr_fill n v f = some (fun j => if j < n then v else f j) := by
  unfold f_Jarr_fill
  simp only [zlet]
  obtain ⟨r, h1, h2⟩ := zloop_rel (step := fun q : Int32 × (Nat → Int32) => f_Jarr_fill_l5 n v (Int32.ofNat n) q.1 q.2) (I := fun i q => q = (nI i, fun j => if j < i then v else f j)) (K := fun r => r = fun j => if j < n then v else f j) n 0 (s0 := (0, f)) hn (by omega)
    (by rw [nI_0]; simp)
    (fun i q hi hq => by
      subst hq
      refine ⟨_, ?_, rfl⟩
      show f_Jarr_fill_l5 n v (nI n) (nI i) _ = _
      unfold f_Jarr_fill_l5
      rw [if_neg (nI_ge hi (by omega)), if_neg (in_nI hi (by omega)), clampI (by omega)]
      simp only [zlet, nI_1]
      have e : (upd (fun j => if j < i then v else f j) i v) = (fun j => if j < i + 1 then v else f j) := by
        funext j
        unfold upd
        by_cases e : j = i
        · subst e; simp
        · have : (j < i) ↔ (j < i + 1) := by omega
          simp [e, this]
      rw [e])
    (fun q hq => by
      subst hq
      refine ⟨_, ?_, rfl⟩
      show f_Jarr_fill_l5 n v (nI n) (nI n) _ = _
      unfold f_Jarr_fill_l5
      rw [if_pos (nI_le (Nat.le_refl n) (by omega))])
  have h1 : zloop (fun q => f_Jarr_fill_l5 n v (Int32.ofNat n) q.1 q.2) zF ((0 : Int32), f) = some r := h1
  rw [h1, h2]
  rfl
theorem cntN_zero {f : Nat → Int32} : ∀ n, (∀ k, k < n → f k = 0) → cntN f n = 0
  | 0, _ => rfl
  | n + 1, h => by
    unfold cntN
    rw [cntN_zero n (fun k hk => h k (by omega)), if_pos (h n (by omega))]
/-- the polynomial without monomials -/
def P0 : Int32 → BitVec 3 := fun _ => 0
theorem PC_zero (num : Nat → Int32) : PC P0 0 (fun j => if j < 2325 then 0 else num j) := by
  refine ⟨fun m c hc => ?_, ?_⟩
  · have := (plC_at hc).1
    show (if c < 2325 then 0 else num c) = toI 0
    rw [if_pos this, toI_0]
  · rw [cntN_zero 2325 (fun k hk => by show (if k < 2325 then 0 else num k) = 0; rw [if_pos hk]), nI_0]
theorem clearC (mono : Int32) (num : Nat → Int32) : ∃ num', f_Po_clear mono num = some (0, num') ∧ PC P0 0 num' := by
  unfold f_Po_clear
  rw [fill_eq (by omega)]
  exact ⟨_, rfl, PC_zero num⟩
theorem PR_zero (num : Nat → Int32) : PR P0 (fun j => if j < 15625 then 0 else num j) := by
  refine ⟨fun m r _ hr _ => ?_, fun k hk hne => ?_⟩
  · show (if r < 15625 then 0 else num r) = toI 0
    rw [if_pos hr, toI_0]
  · exfalso
    apply hne
    show (if k < 15625 then 0 else num k) = 0
    rw [if_pos hk]
theorem lt15 {i : Nat} (h : i < 15625) : ¬ (15625 : Int32) ≤ nI i := show ¬ nI 15625 ≤ nI i from nI_ge h (by omega)
theorem ge15 : (15625 : Int32) ≤ nI 15625 := show nI 15625 ≤ nI 15625 from nI_le (Nat.le_refl _) (by omega)
theorem upd_fill (f : Nat → Int32) (i : Nat) (v : Int32) : upd (fun j => if j < i then v else f j) i v = fun j => if j < i + 1 then v else f j := by
  funext j
  unfold upd
  by_cases e : j = i
  · subst e; simp
  · have : (j < i) ↔ (j < i + 1) := by omega
    simp [e, this]
/-- the inputs of the reference -/
theorem emptyR {N : Nat} (hN : N ≤ 6) (op em th ha : Int32) (num st : Nat → Int32) : ∃ num', f_Md_empty (nI N) op em th ha num st = some (1, th &&& f_Md_inputs (nI N) op, 0, num', fun w => if w < N then st w &&& f_Md_inputs (nI N) op else st w) ∧ PR P0 num' := by
  unfold f_Md_empty
  simp only [zlet]
  obtain ⟨r, h1, h2⟩ := zloop_rel (step := fun q : Int32 × (Nat → Int32) => f_Md_empty_l25 (nI N) op 1 (th &&& f_Md_inputs (nI N) op) 0 st q.1 q.2) (I := fun i q => q = (nI i, fun j => if j < i then 0 else num j)) (K := fun r => r = fun j => if j < 15625 then 0 else num j) 15625 0 (s0 := (0, num)) (by omega) (by omega)
    (by rw [nI_0]; simp)
    (fun i q hi hq => by
      subst hq
      refine ⟨_, ?_, rfl⟩
      show f_Md_empty_l25 (nI N) op 1 (th &&& f_Md_inputs (nI N) op) 0 st (nI i) _ = _
      unfold f_Md_empty_l25
      rw [if_neg (lt15 hi), if_neg (in_nI hi (by omega)), clampI (by omega)]
      simp only [zlet, nI_1]
      rw [upd_fill])
    (fun q hq => by
      subst hq
      refine ⟨_, ?_, rfl⟩
      show f_Md_empty_l25 (nI N) op 1 (th &&& f_Md_inputs (nI N) op) 0 st (nI 15625) _ = _
      unfold f_Md_empty_l25
      rw [if_pos ge15])
  have h1 : zloop (fun q => f_Md_empty_l25 (nI N) op 1 (th &&& f_Md_inputs (nI N) op) 0 st q.1 q.2) zF ((0 : Int32), num) = some r := h1
  rw [h1, h2]
  simp only [zb1]
  obtain ⟨r3, h3, h4⟩ := zloop_rel (step := fun q : Int32 × (Nat → Int32) => f_Md_empty_l47 (nI N) op 1 (th &&& f_Md_inputs (nI N) op) 0 (fun j => if j < 15625 then 0 else num j) q.1 q.2) (I := fun i q => q = (nI i, fun w => if w < i then st w &&& f_Md_inputs (nI N) op else st w)) (K := fun r => r = fun w => if w < N then st w &&& f_Md_inputs (nI N) op else st w) N 0 (s0 := (0, st)) (by omega) (by omega)
    (by rw [nI_0]; simp)
    (fun i q hi hq => by
      subst hq
      refine ⟨_, ?_, rfl⟩
      show f_Md_empty_l47 (nI N) op 1 (th &&& f_Md_inputs (nI N) op) 0 _ (nI i) _ = _
      unfold f_Md_empty_l47
      have hin := in_nI (show i < 6 by omega) (show 6 < 2 ^ 31 by omega)
      rw [if_neg (nI_ge hi (by omega)), if_neg hin, if_neg hin, clampI (by omega)]
      simp only [zlet, nI_1]
      have e : upd (fun w => if w < i then st w &&& f_Md_inputs (nI N) op else st w) i ((if i < i then st i &&& f_Md_inputs (nI N) op else st i) &&& f_Md_inputs (nI N) op) = fun w => if w < i + 1 then st w &&& f_Md_inputs (nI N) op else st w := by
        funext w
        unfold upd
        by_cases e : w = i
        · subst e; simp
        · have : (w < i) ↔ (w < i + 1) := by omega
          simp [e, this]
      rw [e])
    (fun q hq => by
      subst hq
      refine ⟨_, ?_, rfl⟩
      show f_Md_empty_l47 (nI N) op 1 (th &&& f_Md_inputs (nI N) op) 0 _ (nI N) _ = _
      unfold f_Md_empty_l47
      rw [if_pos (nI_le (Nat.le_refl N) (by omega))])
  have h3 : zloop (fun q => f_Md_empty_l47 (nI N) op 1 (th &&& f_Md_inputs (nI N) op) 0 (fun j => if j < 15625 then 0 else num j) q.1 q.2) zF ((0 : Int32), st) = some r3 := h3
  rw [h3, h4]
  exact ⟨_, rfl, PR_zero num⟩
theorem emptyC (th inp rb em mono : Int32) (vals num : Nat → Int32) : ∃ num', f_Ps_becomeEmpty th inp rb em vals mono num = some (inp, 0, 1, (fun w => if w < 6 then vals w &&& (inp ||| 16777216) else vals w), 0, num') ∧ PC P0 0 num' := by
  unfold f_Ps_becomeEmpty
  obtain ⟨r3, h3, h4⟩ := zloop_rel (step := fun q : Int32 × (Nat → Int32) => f_Ps_becomeEmpty_l2 th inp rb em mono num q.1 q.2) (I := fun i q => q = (nI i, fun w => if w < i then vals w &&& (inp ||| 16777216) else vals w)) (K := fun r => r = fun w => if w < 6 then vals w &&& (inp ||| 16777216) else vals w) 6 0 (s0 := (0, vals)) (by omega) (by omega)
    (by rw [nI_0]; simp)
    (fun i q hi hq => by
      subst hq
      refine ⟨_, ?_, rfl⟩
      show f_Ps_becomeEmpty_l2 th inp rb em mono num (nI i) _ = _
      unfold f_Ps_becomeEmpty_l2
      have hin := in_nI (show i < 6 by omega) (show 6 < 2 ^ 31 by omega)
      rw [if_neg (lt6 hi), if_neg hin, if_neg hin, clampI (by omega)]
      simp only [zlet, nI_1]
      have e : upd (fun w => if w < i then vals w &&& (inp ||| 16777216) else vals w) i ((if i < i then vals i &&& (inp ||| 16777216) else vals i) &&& (inp ||| 16777216)) = fun w => if w < i + 1 then vals w &&& (inp ||| 16777216) else vals w := by
        funext w
        unfold upd
        by_cases e : w = i
        · subst e; simp
        · have : (w < i) ↔ (w < i + 1) := by omega
          simp [e, this]
      rw [e])
    (fun q hq => by
      subst hq
      refine ⟨_, ?_, rfl⟩
      show f_Ps_becomeEmpty_l2 th inp rb em mono num (nI 6) _ = _
      unfold f_Ps_becomeEmpty_l2
      rw [if_pos ge6])
  have h3 : zloop (fun q => f_Ps_becomeEmpty_l2 th inp rb em mono num q.1 q.2) zF ((0 : Int32), vals) = some r3 := h3
  rw [h3, h4]
  simp only [zb1]
  obtain ⟨nu, c1, c2⟩ := clearC mono num
  rw [c1]
  exact ⟨nu, rfl, c2⟩
/-- a bit replaced in the values, the first n of them -/
def vaB (vals : Nat → Int32) (z : Nat) (v : Int32) (n : Nat) : Nat → Int32 := fun w => if w < n ∧ bt (vals w) z = true then vals w ^^^ (sb z ^^^ v) else vals w
theorem valsC {z : Nat} (hz : z < 24) (v : Int32) (vals : Nat → Int32) : f_Ps_replaceInValues (nI z) v vals = some (vaB vals z v 6) := by
  unfold f_Ps_replaceInValues
  obtain ⟨r, h1, h2⟩ := zloop_rel (step := fun q : Int32 × (Nat → Int32) => f_Ps_replaceInValues_l2 (nI z) v q.1 q.2) (I := fun i q => q = (nI i, vaB vals z v i)) (K := fun r => r = vaB vals z v 6) 6 0 (s0 := (0, vals)) (by omega) (by omega)
    (by
      have e : vaB vals z v 0 = vals := by funext w; simp [vaB]
      rw [nI_0, e])
    (fun i q hi hq => by
      subst hq
      refine ⟨_, ?_, rfl⟩
      show f_Ps_replaceInValues_l2 (nI z) v (nI i) (vaB vals z v i) = _
      unfold f_Ps_replaceInValues_l2
      have ew : vaB vals z v i i = vals i := by unfold vaB; rw [if_neg (by omega)]
      have hin := in_nI (show i < 6 by omega) (show 6 < 2 ^ 31 by omega)
      have hin2 : ¬ (nI i < 0 ∨ 6 ≤ i) := by
        have h := hin
        rw [clampI (by omega)] at h
        exact h
      rw [if_neg (lt6 hi), if_neg hin, clampI (by omega), ew, sbe z]
      simp only [zlet, nI_1]
      cases hb : bt (vals i) z
      · rw [has_f (by omega) hb, if_pos rfl]
        have e : vaB vals z v i = vaB vals z v (i + 1) := by
          funext w
          unfold vaB
          by_cases e : w = i
          · subst e; simp [hb]
          · have : (w < i ∧ bt (vals w) z = true) ↔ (w < i + 1 ∧ bt (vals w) z = true) := ⟨fun q => ⟨by omega, q.2⟩, fun q => ⟨by omega, q.2⟩⟩
            simp only [this]
        rw [e]
      · rw [has_t (by omega) hb, if_neg (by decide), if_neg hin2, if_neg hin2]
        have e : upd (vaB vals z v i) i (vals i ^^^ (sb z ^^^ v)) = vaB vals z v (i + 1) := by
          funext w
          unfold vaB upd
          by_cases e : w = i
          · subst e; simp [hb]
          · have : (w < i ∧ bt (vals w) z = true) ↔ (w < i + 1 ∧ bt (vals w) z = true) := ⟨fun q => ⟨by omega, q.2⟩, fun q => ⟨by omega, q.2⟩⟩
            simp only [this, if_neg e]
        rw [e])
    (fun q hq => by
      subst hq
      refine ⟨_, ?_, rfl⟩
      show f_Ps_replaceInValues_l2 (nI z) v (nI 6) (vaB vals z v 6) = _
      unfold f_Ps_replaceInValues_l2
      rw [if_pos ge6])
  have h1 : zloop (fun q => f_Ps_replaceInValues_l2 (nI z) v q.1 q.2) zF ((0 : Int32), vals) = some r := h1
  rw [h1, h2]
  rfl
theorem bit1_eq {c : Int32} (h : c = 0 ∨ c = 1) {d : Int32} (h' : d = 0 ∨ d = 1) : (c ^^^ d = 0 ∨ c ^^^ d = 1) ∧ (c ^^^ d = 1 ↔ ((c = 1) ↔ ¬ (d = 1))) := by
  rcases h with rfl | rfl <;> rcases h' with rfl | rfl <;> decide
/-- the values after a bit is replaced -/
theorem RelW_rep {N : Nat} (hN : N ≤ 6) {vals st cs : Nat → Int32} (h : RelW N vals st cs) {z : Nat} (hz : z < 24) {v s c : Int32} (hv : Rv v s c) (hvl : ∀ k, 25 ≤ k → k < 32 → bt v k = false) (hs : lo24 s) (hsz : bt s z = false) (hc : c = 0 ∨ c = 1) : RelW N (vaB vals z v 6) (stB st z s N) (csB cs st z c N) := by
  refine ⟨fun w hw => ?_, fun w hw hw6 => ?_⟩
  · obtain ⟨⟨h1, h2⟩, h3, h4, h5⟩ := h.1 w hw
    by_cases hb : bt (st w) z = true
    · have hwN : w < N := by
        apply Classical.byContradiction
        intro q
        rw [(h.2 w (by omega) hw).2.1, b_0] at hb
        cases hb
      have hbv : bt (vals w) z = true := by rw [h1 z hz]; exact hb
      have e1 : vaB vals z v 6 w = vals w ^^^ (sb z ^^^ v) := if_pos ⟨hw, hbv⟩
      have e2 : stB st z s N w = wo (st w) z ^^^ s := if_pos ⟨hwN, hb⟩
      have e3 : csB cs st z c N w = cs w ^^^ c := if_pos ⟨hwN, hb⟩
      rw [e1, e2, e3]
      have hx := bit1_eq h5 hc
      refine ⟨⟨fun k hk => ?_, ?_⟩, fun k hk hk2 => ?_, lo24_xor (lo24_wo h4 z) hs, hx.1⟩
      · rw [b_xor, b_xor, b_xor, bt_sb (by omega) (by omega), bt_wo _ hz (by omega), h1 k hk, hv.1 k hk]
        by_cases e : z = k
        · subst e; simp [hb]
        · have e' : k ≠ z := fun q => e q.symm
          simp [e, e']
      · rw [b_xor, b_xor, bt_sb (by omega) (by omega), hx.2, ← h2, ← hv.2]
        have : decide (z = 24) = false := by simp; omega
        rw [this]
        cases bt (vals w) 24 <;> cases bt v 24 <;> simp
      · rw [b_xor, b_xor, bt_sb (by omega) (by omega), h3 k hk hk2, hvl k hk hk2]
        simp
        omega
    · have hbv : ¬ bt (vals w) z = true := by rw [h1 z hz]; exact hb
      have e1 : vaB vals z v 6 w = vals w := if_neg (fun q => hbv q.2)
      have e2 : stB st z s N w = st w := if_neg (fun q => hb q.2)
      have e3 : csB cs st z c N w = cs w := if_neg (fun q => hb q.2)
      rw [e1, e2, e3]
      exact h.1 w hw
  · obtain ⟨a, b, d⟩ := h.2 w hw hw6
    have e1 : vaB vals z v 6 w = vals w := if_neg (fun q => by rw [a, b_0] at q; cases q.2)
    have e2 : stB st z s N w = st w := if_neg (fun q => by omega)
    have e3 : csB cs st z c N w = cs w := if_neg (fun q => by omega)
    rw [e1, e2, e3]
    exact ⟨a, b, d⟩
/-- the values of an emptied sum -/
theorem RelW_empty {N : Nat} (hN : N ≤ 6) {vals st cs : Nat → Int32} (h : RelW N vals st cs) {inp : Int32} (hi : lo24 inp) : RelW N (fun w => if w < 6 then vals w &&& (inp ||| 16777216) else vals w) (fun w => if w < N then st w &&& inp else st w) cs := by
  refine ⟨fun w hw => ?_, fun w hw hw6 => ?_⟩
  · obtain ⟨⟨h1, h2⟩, h3, h4, h5⟩ := h.1 w hw
    show Rv (if w < 6 then vals w &&& (inp ||| 16777216) else vals w) (if w < N then st w &&& inp else st w) (cs w) ∧ (∀ k, 25 ≤ k → k < 32 → bt (if w < 6 then vals w &&& (inp ||| 16777216) else vals w) k = false) ∧ lo24 (if w < N then st w &&& inp else st w) ∧ _
    rw [if_pos hw]
    have hst : (if w < N then st w &&& inp else st w) = st w &&& inp := by
      by_cases hwN : w < N
      · rw [if_pos hwN]
      · rw [if_neg hwN, (h.2 w (by omega) hw).2.1]
        apply b_ext
        intro i _
        rw [b_and, b_0]
        rfl
    rw [hst]
    refine ⟨⟨fun k hk => ?_, ?_⟩, fun k hk hk2 => ?_, lo24_and h4 _, h5⟩
    · rw [b_and, b_and, b_or, h1 k hk, bt_one k (by omega)]
      have : decide (k = 24) = false := by simp; omega
      rw [this, Bool.or_false]
    · rw [b_and, b_or, bt_one 24 (by omega), hi 24 (by omega) (by omega)]
      simpa using h2
    · rw [b_and, h3 k hk hk2]
      rfl
  · obtain ⟨a, b, d⟩ := h.2 w hw hw6
    show (if w < 6 then vals w &&& (inp ||| 16777216) else vals w) = 0 ∧ (if w < N then st w &&& inp else st w) = 0 ∧ cs w = 0
    rw [if_pos hw6, if_neg (by omega), a]
    refine ⟨?_, b, d⟩
    apply b_ext
    intro i _
    rw [b_and, b_0]
    rfl
