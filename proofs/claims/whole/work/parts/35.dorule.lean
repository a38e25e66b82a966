/-! a rule is done: class and reference side by side -/
/-- the rules done so far are the same -/
def RelD (r : Nat) (cnt : Int32) (kd ys zs : Nat → Int32) (rules : Int32) (rk rb ro : Nat → Int32) : Prop := cnt = nI r ∧ rules = nI r ∧ ∀ i, i < r → kd i = rk i ∧ ys i = rb i ∧ zs i = ro i
/-- the bits that are there, the inputs, how many rules there may have been -/
def RelT (N c r : Nat) (op th inp : Int32) : Prop := N ≤ 6 ∧ 1 ≤ N ∧ c ≤ 24 ∧ lo24 th ∧ (∀ k, k < 24 → bt th k = true → k < c) ∧ (op = 0 ∨ op = 1) ∧ inp = f_Md_inputs (nI N) op ∧ lo24 inp ∧ (∀ k, k < 24 → bt inp k = true → bt th k = true) ∧ r + (bl (th &&& (inp ^^^ (-1)))).length ≤ c
theorem bl_wo (x : Int32) {y : Nat} (hy : y < 24) : bl (wo x y) = (bl x).filter (fun k => decide (k ≠ y)) := by
  unfold bl
  rw [List.filter_filter]
  apply List.filter_congr
  intro k hk
  have := List.mem_range.mp hk
  rw [bt_wo x hy (by omega), Bool.and_comm]
theorem filter_lt {l : List Nat} {y : Nat} (h : y ∈ l) : (l.filter (fun k => decide (k ≠ y))).length < l.length := by
  induction l with
  | nil => cases h
  | cons a l ih =>
    by_cases e : a = y
    · subst e
      have := List.length_filter_le (fun k => decide (k ≠ a)) l
      simp
      exact Nat.lt_succ_of_le (by simpa using this)
    · have h1 : y ∈ l := by
        rcases List.mem_cons.mp h with q | q
        · exact absurd q.symm e
        · exact q
      have h2 := ih h1
      simp [e]
      simpa using h2
theorem bl_wo_lt {x : Int32} {y : Nat} (hy : y < 24) (h : bt x y = true) : (bl (wo x y)).length < (bl x).length := by
  rw [bl_wo x hy]
  exact filter_lt (mem_bl.mpr ⟨hy, h⟩)
theorem bl_wo_le (x : Int32) {y : Nat} (hy : y < 24) : (bl (wo x y)).length ≤ (bl x).length := by
  rw [bl_wo x hy]
  exact List.length_filter_le _ _
theorem wo_and (x y : Int32) (z : Nat) : wo x z &&& y = wo (x &&& y) z := by
  unfold wo
  apply b_ext
  intro k _
  simp only [b_and]
  cases bt x k <;> cases bt y k <;> cases bt (sb z ^^^ (-1)) k <;> rfl
theorem bl_zero : bl 0 = [] := by decide
theorem and_self_not (x : Int32) : x &&& (x ^^^ (-1)) = 0 := by
  apply b_ext
  intro k hk
  rw [b_and, bt_not _ hk, b_0]
  cases bt x k <;> rfl
theorem keepC {r : Nat} (hr : r < 24) (k y z : Int32) (kd ys zs : Nat → Int32) : f_Dr_keep k y z (nI r) kd ys zs = some (nI (r + 1), upd kd r k, upd ys r y, upd zs r z) := by
  unfold f_Dr_keep
  have hin := in_nI hr (show 24 < 2 ^ 31 by omega)
  rw [if_neg (nI_pos (by omega)), if_pos (show nI r < 24 from (show nI r < nI 24 from nI_lt hr (by omega))), if_neg hin]
  simp only [zlet]
  rw [if_neg hin, if_neg hin, clampI (by omega)]
  show some (nI r + 1, _, _, _) = _
  rw [nI_1]
theorem RelD_next {r : Nat} {cnt : Int32} {kd ys zs : Nat → Int32} {rules : Int32} {rk rb ro : Nat → Int32} (h : RelD r cnt kd ys zs rules rk rb ro) (k y z : Int32) : RelD (r + 1) (nI (r + 1)) (upd kd r k) (upd ys r y) (upd zs r z) (nI (r + 1)) (upd rk r k) (upd rb r y) (upd ro r z) := by
  refine ⟨rfl, rfl, fun i hi => ?_⟩
  by_cases e : i = r
  · subst e
    simp only [pk_us]
    exact ⟨trivial, trivial, trivial⟩
  · rw [pk_un e, pk_un e, pk_un e, pk_un e, pk_un e, pk_un e]
    exact h.2.2 i (by omega)
/-- the reference's record of a rule -/
theorem recR {r : Nat} (hr : r < 24) (x1 x2 x3 wi op em th ha al hb : Int32) (num st rk rb ro oS oN cs : Nat → Int32) : f_Md_doRule_j134 x1 x2 x3 wi op em th ha (nI r) al hb num st rk rb ro oS oN cs = some (em, th, ha, nI (r + 1), num, st, upd rk r x1, upd rb r x2, upd ro r x3, oS, oN, cs) := by
  unfold f_Md_doRule_j134
  have hin := in_nI hr (show 24 < 2 ^ 31 by omega)
  rw [if_neg hin]
  simp only [zlet]
  rw [if_neg hin, if_neg hin, clampI (by omega)]
  show some (_, _, _, nI r + 1, _) = _
  rw [nI_1]
theorem RelT_less {N c r : Nat} {op th inp th' : Int32} (h : RelT N c r op th inp) (h1 : lo24 th') (h2 : ∀ k, k < 24 → bt th' k = true → bt th k = true) (h3 : ∀ k, k < 24 → bt inp k = true → bt th' k = true) (h4 : (bl (th' &&& (inp ^^^ (-1)))).length < (bl (th &&& (inp ^^^ (-1)))).length) : RelT N c (r + 1) op th' inp := by
  obtain ⟨a1, a2, a3, a4, a5, a6, a7, a8, a9, a10⟩ := h
  exact ⟨a1, a2, a3, h1, fun k hk hb => a5 k hk (h2 k hk hb), a6, a7, a8, h3, by omega⟩
theorem Rv_self {x : Int32} (hx : lo24 x) : Rv x x 0 := ⟨fun _ _ => rfl, by rw [hx 24 (by omega) (by omega)]; decide⟩
theorem Rv_one {x : Int32} (hx : lo24 x) : Rv (x ||| 16777216) x 1 := by
  refine ⟨fun k hk => ?_, ?_⟩
  · rw [b_or, bt_one k (by omega)]
    have : decide (k = 24) = false := by simp; omega
    rw [this, Bool.or_false]
  · rw [b_or, bt_one 24 (by omega)]
    simp
/-- how many roots lie below: bounded by the bits that came and the rules that were done -/
def HB (c r : Nat) (ha : Int32) : Prop := ∃ h : Int, ha = Int32.ofInt h ∧ -(2 * (r : Int)) ≤ h ∧ h ≤ 2 * (c : Int)
theorem HB_sub {c r : Nat} {ha ha' : Int32} (h : HB c r ha) (e : ha' = ha - 2 ∨ ha' = ha - 1 ∨ ha' = 0) : HB c (r + 1) ha' := by
  obtain ⟨h, rfl, h1, h2⟩ := h
  rcases e with rfl | rfl | rfl
  · exact ⟨h - 2, by rw [Int32.ofInt_sub]; rfl, by omega, by omega⟩
  · exact ⟨h - 1, by rw [Int32.ofInt_sub]; rfl, by omega, by omega⟩
  · exact ⟨0, rfl, by omega, by omega⟩
theorem HB_add {c r : Nat} {ha : Int32} (h : HB c r ha) : HB (c + 1) r (ha + 1) ∧ HB (c + 1) r (ha + 2) := by
  obtain ⟨h, rfl, h1, h2⟩ := h
  exact ⟨⟨h + 1, by rw [Int32.ofInt_add]; rfl, by omega, by omega⟩, ⟨h + 2, by rw [Int32.ofInt_add]; rfl, by omega, by omega⟩⟩
theorem HB_0 (c r : Nat) : HB c r 0 := ⟨0, rfl, by omega, by omega⟩
theorem doRule_sim {P : Int32 → BitVec 3} {mono : Int32} {num number : Nat → Int32} (hpc : PC P mono num) (hpr : PR P number) {N c r : Nat} {op th inp : Int32} (ht : RelT N c r op th inp) {vals st cs : Nat → Int32} (hw : RelW N vals st cs)
    {cnt rules : Int32} {kd ys zs rk rb ro : Nat → Int32} (hd : RelD r cnt kd ys zs rules rk rb ro) {y k : Nat} (hy : y < 24) (hid : Hid N inp th st y) (hk : KD P inp y k) (ha em : Int32) (oS oN : Nat → Int32) (k1 : 1 ≤ k) (k4 : k ≤ 4) :
    ∃ P' th' ha' em' mono' num' number' vals' st' cs' oS' oN' kd' ys' zs' rk' rb' ro',
      f_Ps_doRule (nI k) (nI y) th inp ha em mono num cnt kd ys zs vals = some (th', ha', em', mono', num', nI (r + 1), kd', ys', zs', vals') ∧
      f_Md_doRule (nI k) (nI y) (nI N) op em th ha rules (toI (P (sb y))) (hbP P y) number st rk rb ro oS oN cs = some (em', th', ha', nI (r + 1), number', st', rk', rb', ro', oS', oN', cs') ∧
      PC P' mono' num' ∧ PR P' number' ∧ RelT N c (r + 1) op th' inp ∧ RelW N vals' st' cs' ∧ RelD (r + 1) (nI (r + 1)) kd' ys' zs' (nI (r + 1)) rk' rb' ro' ∧ (bl (th' &&& (inp ^^^ (-1)))).length < (bl (th &&& (inp ^^^ (-1)))).length ∧ (em' = em ∨ em' = 1) ∧ (ha' = ha - 2 ∨ ha' = ha - 1 ∨ ha' = 0) := by
  have hT := ht
  obtain ⟨a1, a2, a3, a4, a5, a6, a7, a8, a9, a10⟩ := ht
  obtain ⟨hd1, hd2, hd3⟩ := id hd
  subst hd1
  subst hd2
  have hby : bt (th &&& (inp ^^^ (-1))) y = true := by
    rw [b_and, bt_not _ (by omega), hid.1, hid.2.1]
    rfl
  have hpos : 0 < (bl (th &&& (inp ^^^ (-1)))).length := List.length_pos_of_mem (mem_bl.mpr ⟨hy, hby⟩)
  have hr : r < 24 := by omega
  have g := hk.1
  have hpa : f_Po_partnersOf (nI y) num = some (hbP P y) := by
    rcases partC hpc hy with ⟨_, e⟩ | ⟨q, _⟩
    · exact e
    · exact absurd g q
  have hlt1 : (bl (wo th y &&& (inp ^^^ (-1)))).length < (bl (th &&& (inp ^^^ (-1)))).length := by
    rw [wo_and]
    exact bl_wo_lt hy hby
  have hsub : ∀ k, k < 24 → bt (wo th y) k = true → bt th k = true := fun k hk h => by
    rw [bt_wo _ hy (by omega)] at h
    simp at h
    exact h.1
  have hinp1 : ∀ k, k < 24 → bt inp k = true → bt (wo th y) k = true := fun k hk h => by
    rw [bt_wo _ hy (by omega), a9 k hk h]
    have : k ≠ y := fun q => by subst q; rw [hid.2.1] at h; cases h
    simp [this]
  obtain ⟨mo1, nu1, c1, c2⟩ := dropC hpc hy
  obtain ⟨nr1, d1, d2⟩ := dropR hpr hy th
  unfold f_Ps_doRule
  rw [sbe y, numC hpc (all_1 hy), hpa]
  simp only [zb1]
  rcases hk.2 with ⟨rfl, hb, hP⟩ | ⟨rfl, hb, hP⟩ | ⟨rfl, hP⟩ | ⟨rfl, hP, hb⟩
  · -- 1
    rw [if_neg (show ¬ nI 1 = 3 by decide)]
    unfold f_Ps_doRule_j42
    rw [keepC hr]
    simp only [zb4]
    rw [if_neg (show ¬ nI 1 = 2 by decide), c1]
    simp only [zb2, zlet]
    rw [if_neg (show ¬ nI 1 = 4 by decide)]
    unfold f_Ps_doRule_j103
    simp only [zlet]
    rw [if_neg (show ¬ nI 1 = 3 by decide), if_neg (show ¬ nI 1 = 4 by decide), wo_sb]
    refine ⟨dropP P y, wo th y, ha - 2, em, mo1, nu1, nr1, vals, st, cs, oS, oN, _, _, _, _, _, _, rfl, ?_, c2, d2, RelT_less hT (lo24_wo a4 y) hsub hinp1 hlt1, hw, RelD_next hd (nI 1) (nI y) (-1), hlt1, Or.inl rfl, Or.inl rfl⟩
    unfold f_Md_doRule
    rw [if_neg (show ¬ nI 1 = 2 by decide), d1]
    simp only [zb2]
    rw [if_neg (show ¬ nI 1 = 4 by decide)]
    unfold f_Md_doRule_j46 f_Md_doRule_j50 f_Md_doRule_j92
    simp only [zlet]
    rw [if_neg (show ¬ nI 1 = 3 by decide), if_neg (show ¬ nI 1 = 4 by decide), recR hr]
  · -- 2
    rw [if_neg (show ¬ nI 2 = 3 by decide)]
    unfold f_Ps_doRule_j42
    rw [keepC hr]
    simp only [zb4]
    rw [if_pos (show nI 2 = 2 by decide)]
    obtain ⟨nu2, e1, e2⟩ := emptyC th inp ha em mono vals num
    rw [e1]
    simp only [zb6]
    obtain ⟨nr2, f1, f2⟩ := emptyR a1 op em th ha number st
    have hth : th &&& inp = inp := by
      apply b_ext
      intro k hk
      rw [b_and]
      by_cases h24 : k < 24
      · cases hbi : bt inp k
        · simp
        · rw [a9 k h24 hbi]; rfl
      · rw [a8 k hk (by omega)]; simp
    have hz0 : (bl (inp &&& (inp ^^^ (-1)))).length = 0 := by rw [and_self_not, bl_zero]; rfl
    refine ⟨P0, inp, 0, 1, 0, nu2, nr2, _, _, cs, oS, oN, _, _, _, _, _, _, rfl, ?_, e2, f2, RelT_less hT a8 (fun k hk h => a9 k hk h) (fun k hk h => h) (by omega), RelW_empty a1 hw a8, RelD_next hd (nI 2) (nI y) (-1), by omega, Or.inr rfl, Or.inr (Or.inr rfl)⟩
    unfold f_Md_doRule
    rw [if_pos (show nI 2 = 2 by decide), f1]
    simp only [zb5]
    unfold f_Md_doRule_j50 f_Md_doRule_j92
    rw [if_neg (show ¬ nI 2 = 3 by decide), if_neg (show ¬ nI 2 = 4 by decide), recR hr, ← a7, hth]
  · -- 4
    rw [if_neg (show ¬ nI 4 = 3 by decide)]
    unfold f_Ps_doRule_j42
    rw [keepC hr]
    simp only [zb4]
    rw [if_neg (show ¬ nI 4 = 2 by decide), c1]
    simp only [zb2, zlet]
    rw [if_pos (show nI 4 = 4 by decide)]
    unfold f_Ps_doRule_j103
    simp only [zlet]
    rw [if_neg (show ¬ nI 4 = 3 by decide), if_pos (show nI 4 = 4 by decide), wo_sb]
    have hlo := lo24_hbP P y
    unfold f_Md_doRule
    rw [if_neg (show ¬ nI 4 = 2 by decide), d1]
    simp only [zb2]
    rw [if_pos (show nI 4 = 4 by decide)]
    unfold f_Md_doRule_j46 f_Md_doRule_j50 f_Md_doRule_j92
    simp only [zlet]
    rw [if_neg (show ¬ nI 4 = 3 by decide), if_pos (show nI 4 = 4 by decide)]
    have fin : ∀ (n1 n2 : Int32), ∃ P' mono' num' number', (∃ m2 u2, f_Po_add 0 n1 mo1 nu1 = some (m2, u2) ∧ f_Po_addXor n2 (hbP P y) 0 m2 u2 = some (mono', num')) ∧ (∃ u2, f_Md_add 0 n1 nr1 = some u2 ∧ f_Md_addOr (hbP P y) 0 n2 0 u2 = some number') ∧ PC P' mono' num' ∧ PR P' number' := by
      intro n1 n2
      obtain ⟨m2, u2, g1, g2⟩ := effC_add lo24_0 n1 _ mo1 nu1 c2
      obtain ⟨m3, u3, g3, g4⟩ := xorC lo24_0 n2 (hbP P y) _ m2 u2 g2
      obtain ⟨v2, g5, g6⟩ := effR_add lo24_0 n1 _ nr1 d2
      obtain ⟨v3, g7, g8⟩ := orR lo24_0 (hbP P y) 0 n2 _ v2 g6
      exact ⟨_, m3, u3, v3, ⟨m2, u2, g1, g3⟩, ⟨v2, g5, g7⟩, g4, PR_ext (fun m _ => by rw [eXo_eOr (Rv_self hlo)]) g8⟩
    rcases hP with hP | hP
    · rw [hP, if_pos (show toI 2 = 2 by decide), if_pos (show toI 2 = 2 by decide)]
      obtain ⟨P', m3, u3, v3, ⟨m2, u2, g1, g3⟩, ⟨v2, g5, g7⟩, q1, q2⟩ := fin 1 6
      unfold f_Ps_doRule_j193 f_Md_doRule_j111 f_Md_doRule_j130
      rw [g1, g5]
      simp only [zb2, zb1]
      rw [if_pos (show toI 2 = 2 by decide), if_pos (show toI 2 = 2 by decide), g3, g7]
      simp only [zb2, zb1]
      rw [recR hr]
      exact ⟨P', wo th y, ha - 1, em, m3, u3, v3, vals, st, cs, oS, oN, _, _, _, _, _, _, rfl, rfl, q1, q2, RelT_less hT (lo24_wo a4 y) hsub hinp1 hlt1, hw, RelD_next hd (nI 4) (nI y) (-1), hlt1, Or.inl rfl, Or.inr (Or.inl rfl)⟩
    · rw [hP, if_neg (show ¬ toI 6 = 2 by decide), if_neg (show ¬ toI 6 = 2 by decide)]
      obtain ⟨P', m3, u3, v3, ⟨m2, u2, g1, g3⟩, ⟨v2, g5, g7⟩, q1, q2⟩ := fin 7 2
      unfold f_Ps_doRule_j193 f_Md_doRule_j111 f_Md_doRule_j130
      rw [g1, g5]
      simp only [zb2, zb1]
      rw [if_neg (show ¬ toI 6 = 2 by decide), if_neg (show ¬ toI 6 = 2 by decide), g3, g7]
      simp only [zb2, zb1]
      rw [recR hr]
      exact ⟨P', wo th y, ha - 1, em, m3, u3, v3, vals, st, cs, oS, oN, _, _, _, _, _, _, rfl, rfl, q1, q2, RelT_less hT (lo24_wo a4 y) hsub hinp1 hlt1, hw, RelD_next hd (nI 4) (nI y) (-1), hlt1, Or.inl rfl, Or.inr (Or.inl rfl)⟩
  · -- 3
    have hlo := lo24_hbP P y
    obtain ⟨z, hz⟩ := gtB_of (lo24_and hlo (inp ^^^ (-1))) hb
    have hz24 := hz.1
    have hzb : bt (hbP P y) z = true ∧ bt inp z = false := by
      have := hz.2.1
      rw [b_and, bt_not _ (by omega)] at this
      simpa using this
    have hzy : z ≠ y := ((bt_hbP (by omega)).mp hzb.1).2.1
    rw [if_pos (show nI 3 = 3 by decide), greatC hz]
    simp only [zb1]
    unfold f_Ps_doRule_j42
    rw [keepC hr]
    simp only [zb4]
    rw [if_neg (show ¬ nI 3 = 2 by decide), c1]
    simp only [zb2, zlet]
    rw [if_neg (show ¬ nI 3 = 4 by decide)]
    unfold f_Ps_doRule_j103
    simp only [zlet]
    rw [if_pos (show nI 3 = 3 by decide), wo_sb, wo_sb]
    unfold f_Md_doRule
    rw [if_neg (show ¬ nI 3 = 2 by decide), d1]
    simp only [zb2]
    rw [if_neg (show ¬ nI 3 = 4 by decide)]
    unfold f_Md_doRule_j46 f_Md_doRule_j50
    simp only [zlet]
    rw [if_pos (show nI 3 = 3 by decide), ← a7, greatR hz]
    simp only [zb1]
    rw [wo_sb]
    have hloz : lo24 (wo (hbP P y) z) := lo24_wo hlo z
    have hszz : bt (wo (hbP P y) z) z = false := wo_no _ hz24
    have hlt2 : (bl (wo (wo th y) z &&& (inp ^^^ (-1)))).length < (bl (th &&& (inp ^^^ (-1)))).length := by
      rw [wo_and]
      exact Nat.lt_of_le_of_lt (bl_wo_le _ hz24) hlt1
    have hsub2 : ∀ k, k < 24 → bt (wo (wo th y) z) k = true → bt th k = true := fun k hk h => by
      rw [bt_wo _ hz24 (by omega)] at h
      simp at h
      exact hsub k hk h.1
    have hinp2 : ∀ k, k < 24 → bt inp k = true → bt (wo (wo th y) z) k = true := fun k hk h => by
      rw [bt_wo _ hz24 (by omega), hinp1 k hk h]
      have : k ≠ z := fun q => by subst q; rw [hzb.2] at h; cases h
      simp [this]
    have hT2 := RelT_less hT (lo24_wo (lo24_wo a4 y) z) hsub2 hinp2 hlt2
    have fin : ∀ (v cc : Int32), Rv v (wo (hbP P y) z) cc → (∀ k, 25 ≤ k → k < 32 → bt v k = false) → (cc = 0 ∨ cc = 1) → ∃ P' mono' num' number' oS' oN', f_Po_replaceBit (nI z) v mo1 nu1 = some (mono', num') ∧ f_Md_become (nI z) (wo (hbP P y) z) cc (nI N) (wo th y) nr1 oS oN st cs = some (wo (wo th y) z, number', oS', oN', stB st z (wo (hbP P y) z) N, csB cs st z cc N) ∧ PC P' mono' num' ∧ PR P' number' ∧ RelW N (vaB vals z v 6) (stB st z (wo (hbP P y) z) N) (csB cs st z cc N) := by
      intro v cc hv hvl hcc
      obtain ⟨m2, u2, g1, g2⟩ := replC c2 hz24 hv hszz
      obtain ⟨v2, oS', oN', g3, g4⟩ := becomeR d2 hz24 a1 hszz cc (wo th y) oS oN st cs
      exact ⟨_, m2, u2, v2, oS', oN', g1, g3, g2, g4, RelW_rep a1 hw hz24 hv hvl hloz hszz hcc⟩
    rcases hP with hP | hP
    · rw [hP, if_neg (show ¬ toI 0 = 4 by decide), if_neg (show ¬ toI 0 = 4 by decide)]
      obtain ⟨P', m3, u3, v3, oS', oN', g1, g3, q1, q2, q3⟩ := fin (wo (hbP P y) z) 0 (Rv_self hloz) (fun k hk hk2 => hloz k hk2 (by omega)) (Or.inl rfl)
      unfold f_Ps_doRule_j132 f_Md_doRule_j89 f_Md_doRule_j92
      simp only [zlet]
      rw [or0, g1, g3]
      simp only [zb2, zb6]
      rw [if_neg (show ¬ nI 3 = 4 by decide), recR hr, valsC hz24]
      simp only [zb1]
      rw [wo_sb]
      exact ⟨P', wo (wo th y) z, ha - 2, em, m3, u3, v3, _, _, _, oS', oN', _, _, _, _, _, _, rfl, rfl, q1, q2, hT2, q3, RelD_next hd (nI 3) (nI y) (nI z), hlt2, Or.inl rfl, Or.inl rfl⟩
    · rw [hP, if_pos (show toI 4 = 4 by decide), if_pos (show toI 4 = 4 by decide)]
      obtain ⟨P', m3, u3, v3, oS', oN', g1, g3, q1, q2, q3⟩ := fin (wo (hbP P y) z ||| 16777216) 1 (Rv_one hloz) (fun k hk hk2 => by
        rw [b_or, hloz k hk2 (by omega), bt_one k hk2]
        simp
        omega) (Or.inr rfl)
      unfold f_Ps_doRule_j132 f_Md_doRule_j89 f_Md_doRule_j92
      simp only [zlet]
      rw [g1, g3]
      simp only [zb2, zb6]
      rw [if_neg (show ¬ nI 3 = 4 by decide), recR hr, valsC hz24]
      simp only [zb1]
      rw [wo_sb]
      exact ⟨P', wo (wo th y) z, ha - 2, em, m3, u3, v3, _, _, _, oS', oN', _, _, _, _, _, _, rfl, rfl, q1, q2, hT2, q3, RelD_next hd (nI 3) (nI y) (nI z), hlt2, Or.inl rfl, Or.inl rfl⟩
