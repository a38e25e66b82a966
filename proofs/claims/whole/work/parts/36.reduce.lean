/-! reduce: class and reference side by side -/
theorem zl_one {σ ρ : Type} {step : σ → Option (σ ⊕ ρ)} {s s' : σ} {r : ρ} {n : Nat} (h : step s = some (.inl s')) (h2 : zloop step n s' = some r) : zloop step (n + 1) s = some r := by
  unfold zloop
  rw [h]
  exact h2
theorem zl_end {σ ρ : Type} {step : σ → Option (σ ⊕ ρ)} {s : σ} {r : ρ} {n : Nat} (h : step s = some (.inr r)) : zloop step (n + 1) s = some r := by
  unfold zloop
  rw [h]
theorem zl_mono {σ ρ : Type} {step : σ → Option (σ ⊕ ρ)} : ∀ (n : Nat) (s : σ) (r : ρ), zloop step n s = some r → ∀ m, n ≤ m → zloop step m s = some r
  | 0, s, r, h, m, _ => by cases h
  | n + 1, s, r, h, m, hm => by
    obtain ⟨m, rfl⟩ : ∃ k, m = k + 1 := ⟨m - 1, by omega⟩
    unfold zloop at h ⊢
    cases hs : step s with
    | none => rw [hs] at h; cases h
    | some x =>
      rw [hs] at h
      cases x with
      | inl s' => exact zl_mono n s' r h m (by omega)
      | inr r' => exact h
abbrev F9 : Type := Nat → Int32
def stepC (inp : Int32) (q : Int32 × Int32 × Int32 × Int32 × Int32 × F9 × Int32 × F9 × Int32 × F9 × F9 × F9) : Option ((Int32 × Int32 × Int32 × Int32 × Int32 × F9 × Int32 × F9 × Int32 × F9 × F9 × F9) ⊕ (Int32 × Int32 × Int32 × Int32 × F9 × Int32 × F9 × Int32 × F9 × F9 × F9)) :=
  f_Ps_reduce_l7 inp q.1 q.2.1 q.2.2.1 q.2.2.2.1 q.2.2.2.2.1 q.2.2.2.2.2.1 q.2.2.2.2.2.2.1 q.2.2.2.2.2.2.2.1 q.2.2.2.2.2.2.2.2.1 q.2.2.2.2.2.2.2.2.2.1 q.2.2.2.2.2.2.2.2.2.2.1 q.2.2.2.2.2.2.2.2.2.2.2
def stepR (r0 wi op : Int32) (q : Int32 × Int32 × Int32 × Int32 × Int32 × Int32 × Int32 × F9 × F9 × F9 × F9 × F9 × F9 × F9 × F9) : Option ((Int32 × Int32 × Int32 × Int32 × Int32 × Int32 × Int32 × F9 × F9 × F9 × F9 × F9 × F9 × F9 × F9) ⊕ (Int32 × Int32 × Int32 × Int32 × Int32 × Int32 × F9 × F9 × F9 × F9 × F9 × F9 × F9 × F9)) :=
  f_Md_reduce_l12 r0 0 wi op q.1 q.2.1 q.2.2.1 q.2.2.2.1 q.2.2.2.2.1 q.2.2.2.2.2.1 q.2.2.2.2.2.2.1 q.2.2.2.2.2.2.2.1 q.2.2.2.2.2.2.2.2.1 q.2.2.2.2.2.2.2.2.2.1 q.2.2.2.2.2.2.2.2.2.2.1 q.2.2.2.2.2.2.2.2.2.2.2.1 q.2.2.2.2.2.2.2.2.2.2.2.2.1 q.2.2.2.2.2.2.2.2.2.2.2.2.2.1 q.2.2.2.2.2.2.2.2.2.2.2.2.2.2
theorem kpos {k : Nat} (k1 : 1 ≤ k) (k4 : k ≤ 4) : ¬ nI k ≤ 0 := nI_nle (by omega) (by omega)
/-- the reference goes on to the first bit that has a rule -/
theorem skipR {P : Int32 → BitVec 3} {number : F9} (hpr : PR P number) {N : Nat} (hN : N ≤ 6) (r0 op em th ha rules : Int32) (st rk rb ro oS oN cs : F9) {y0 : Nat} (hy0 : y0 ≤ 24) (hn : ∀ y, y < y0 → ¬ Can P N (f_Md_inputs (nI N) op) th st y) :
    ∀ (d j : Nat), j + d = y0 → ∀ (al hb : Int32), ∃ al' hb', ∀ n r, zloop (stepR r0 (nI N) op) n (nI y0, em, th, ha, rules, al', hb', st, number, rk, rb, ro, oS, oN, cs) = some r → zloop (stepR r0 (nI N) op) (n + d) (nI j, em, th, ha, rules, al, hb, st, number, rk, rb, ro, oS, oN, cs) = some r
  | 0, j, hj, al, hb => by
    have : j = y0 := by omega
    subst this
    exact ⟨al, hb, fun n r h => h⟩
  | d + 1, j, hj, al, hb => by
    have hjy : j < 24 := by omega
    obtain ⟨al1, hb1, e⟩ : ∃ al1 hb1, f_Md_ruleFor (nI j) (nI N) op th al hb st number = some (0, al1, hb1) := by
      rcases ruleR hpr hN op th st hjy al hb with ⟨k, _, _, h1, h2, _⟩ | ⟨_, al1, hb1, e⟩
      · exact absurd ⟨h1, k, h2⟩ (hn j (by omega))
      · exact ⟨al1, hb1, e⟩
    obtain ⟨al', hb', ih⟩ := skipR hpr hN r0 op em th ha rules st rk rb ro oS oN cs hy0 hn d (j + 1) (by omega) al1 hb1
    refine ⟨al', hb', fun n r h => ?_⟩
    refine zl_one (s' := (nI (j + 1), em, th, ha, rules, al1, hb1, st, number, rk, rb, ro, oS, oN, cs)) ?_ (ih n r h)
    show f_Md_reduce_l12 r0 0 (nI N) op (nI j) em th ha rules al hb st number rk rb ro oS oN cs = _
    unfold f_Md_reduce_l12
    rw [if_neg (lt24 hjy), e]
    simp only [zb3, zlet]
    rw [if_pos (by decide), if_pos (by decide)]
    show some (Sum.inl (nI j + 1, _)) = _
    rw [nI_1]
theorem nI_m1 {k : Nat} (h : k < 100) : ¬ nI k = -1 := by
  intro q
  have h9 := nI_pos (n := k) (by omega)
  rw [q] at h9
  exact h9 (by decide)
theorem least_some {P : Int32 → BitVec 3} {mono : Int32} {num : F9} (hp : PC P mono num) {N : Nat} (hN : N ≤ 6) {vals st cs : F9} (hw : RelW N vals st cs) (inp th : Int32) : ∃ y, f_Ps_leastBitWithRule th inp vals num = some y := by
  rcases leastC hp hN hw inp th with ⟨y, _, _, _, _, _, _, _, h, _⟩ | ⟨_, h⟩
  · exact ⟨_, h⟩
  · exact ⟨_, h⟩
set_option maxHeartbeats 4000000 in
theorem reduce_sim {N c : Nat} {op inp : Int32} (r0 : Int32) : ∀ (m r d : Nat) (P : Int32 → BitVec 3) (mono : Int32) (num number : F9) (th : Int32) (vals st cs : F9) (cnt rules : Int32) (kd ys zs rk rb ro : F9) (ha em al hb : Int32) (oS oN : F9) (yC : Int32),
    PC P mono num → PR P number → RelT N c r op th inp → RelW N vals st cs → RelD r cnt kd ys zs rules rk rb ro → (bl (th &&& (inp ^^^ (-1)))).length ≤ m → d + m ≤ 24 → f_Ps_leastBitWithRule th inp vals num = some yC →
    ∃ d' r' P' th' ha' em' mono' num' number' vals' st' cs' kd' ys' zs' rk' rb' ro' al' hb' oS' oN',
      zloop (stepC inp) (m + 1) (nI d, yC, th, ha, em, vals, mono, num, cnt, kd, ys, zs) = some (nI d', th', ha', em', vals', mono', num', nI r', kd', ys', zs') ∧
      zloop (stepR r0 (nI N) op) (25 * (m + 1)) (0, em, th, ha, rules, al, hb, st, number, rk, rb, ro, oS, oN, cs) = some (em', th', ha', nI r', al', hb', st', number', rk', rb', ro', oS', oN', cs') ∧
      d' + r = d + r' ∧ r ≤ r' ∧ d' ≤ 24 ∧ PC P' mono' num' ∧ PR P' number' ∧ RelT N c r' op th' inp ∧ RelW N vals' st' cs' ∧ RelD r' (nI r') kd' ys' zs' (nI r') rk' rb' ro' ∧ (em' = em ∨ em' = 1) ∧ (HB c r ha → HB c r' ha') := by
  intro m
  induction m with
  | zero =>
    intro r d P mono num number th vals st cs cnt rules kd ys zs rk rb ro ha em al hb oS oN yC hpc hpr ht hw hd hlen hdm hy
    have hN := ht.1
    have hinp := ht.2.2.2.2.2.2.1
    rcases leastC hpc hN hw inp th with ⟨y, k, hy24, k1, k4, hid, hk, hn, e, e2⟩ | ⟨hn, e⟩
    · exfalso
      have hby : bt (th &&& (inp ^^^ (-1))) y = true := by
        rw [b_and, bt_not _ (by omega), hid.1, hid.2.1]
        rfl
      have := List.length_pos_of_mem (mem_bl.mpr ⟨hy24, hby⟩)
      omega
    · rw [e] at hy
      cases hy
      obtain ⟨al', hb', sk⟩ := skipR hpr hN r0 op em th ha rules st rk rb ro oS oN cs (Nat.le_refl 24) (by rw [← hinp]; exact hn) 24 0 (by omega) al hb
      obtain ⟨hd1, hd2, hd3⟩ := id hd
      subst hd1
      subst hd2
      refine ⟨d, r, P, th, ha, em, mono, num, number, vals, st, cs, kd, ys, zs, rk, rb, ro, al', hb', oS, oN, ?_, ?_, by omega, Nat.le_refl _, by omega, hpc, hpr, ht, hw, hd, Or.inl rfl, fun h => h⟩
      · refine zl_end ?_
        show f_Ps_reduce_l7 inp (nI d) (-1) th ha em vals mono num (nI r) kd ys zs = _
        unfold f_Ps_reduce_l7
        rw [if_pos rfl]
      · have h0 : (0 : Int32) = nI 0 := by rw [nI_0]
        rw [h0]
        refine sk 1 _ (zl_end ?_)
        show f_Md_reduce_l12 r0 0 (nI N) op (nI 24) em th ha (nI r) al' hb' st number rk rb ro oS oN cs = _
        unfold f_Md_reduce_l12
        rw [if_pos ge24]
  | succ m ih =>
    intro r d P mono num number th vals st cs cnt rules kd ys zs rk rb ro ha em al hb oS oN yC hpc hpr ht hw hd hlen hdm hy
    have hN := ht.1
    have hinp := ht.2.2.2.2.2.2.1
    have h0 : (0 : Int32) = nI 0 := by rw [nI_0]
    rcases leastC hpc hN hw inp th with ⟨y, k, hy24, k1, k4, hid, hk, hn, e, e2⟩ | ⟨hn, e⟩
    · rw [e] at hy
      cases hy
      obtain ⟨P1, th1, ha1, em1, mono1, num1, number1, vals1, st1, cs1, oS1, oN1, kd1, ys1, zs1, rk1, rb1, ro1, s1, s2, p1, p2, p3, p4, p5, p6, p7, p8⟩ := doRule_sim hpc hpr ht hw hd hy24 hid hk ha em oS oN k1 k4
      obtain ⟨yC1, hy1⟩ := least_some p1 hN p4 inp th1
      obtain ⟨al', hb', sk⟩ := skipR hpr hN r0 op em th ha rules st rk rb ro oS oN cs (show y ≤ 24 by omega) (by rw [← hinp]; exact hn) y 0 (by omega) al hb
      obtain ⟨d', r', P', th', ha', em', mono', num', number', vals', st', cs', kd', ys', zs', rk', rb', ro', al2, hb2, oS', oN', i1, i2, i3, i4, i5, i6, i7, i8, i9, i10, i11, i12⟩ := ih (r + 1) (d + 1) P1 mono1 num1 number1 th1 vals1 st1 cs1 (nI (r + 1)) (nI (r + 1)) kd1 ys1 zs1 rk1 rb1 ro1 ha1 em1 (toI (P (sb y))) (hbP P y) oS1 oN1 yC1 p1 p2 p3 p4 p5 (by omega) (by omega) hy1
      refine ⟨d', r', P', th', ha', em', mono', num', number', vals', st', cs', kd', ys', zs', rk', rb', ro', al2, hb2, oS', oN', ?_, ?_, by omega, by omega, i5, i6, i7, i8, i9, i10, ?_, fun h => i12 (HB_sub h p8)⟩
      · refine zl_one (s' := (nI (d + 1), yC1, th1, ha1, em1, vals1, mono1, num1, nI (r + 1), kd1, ys1, zs1)) ?_ i1
        show f_Ps_reduce_l7 inp (nI d) (nI y) th ha em vals mono num cnt kd ys zs = _
        unfold f_Ps_reduce_l7
        rw [if_neg (nI_m1 (by omega)), if_neg (lt24 (by omega)), e2]
        simp only [zb1]
        rw [s1]
        simp only [zb10, zlet]
        rw [hy1]
        simp only [zb1]
        rw [nI_1]
      · rw [h0]
        have hstep : stepR r0 (nI N) op (nI y, em, th, ha, rules, al', hb', st, number, rk, rb, ro, oS, oN, cs) = some (.inl (0, em1, th1, ha1, nI (r + 1), toI (P (sb y)), hbP P y, st1, number1, rk1, rb1, ro1, oS1, oN1, cs1)) := by
          show f_Md_reduce_l12 r0 0 (nI N) op (nI y) em th ha rules al' hb' st number rk rb ro oS oN cs = _
          unfold f_Md_reduce_l12
          rw [if_neg (lt24 hy24)]
          have e3 : f_Md_ruleFor (nI y) (nI N) op th al' hb' st number = some (nI k, toI (P (sb y)), hbP P y) := by
            rcases ruleR hpr hN op th st hy24 al' hb' with ⟨k', k1', k4', _, hk', e3⟩ | ⟨q, _⟩
            · have : k' = k := by
                rw [← hinp] at hk'
                rcases ruleC hpc hy24 inp with ⟨k2, _, _, _, e4⟩ | ⟨q, _⟩
                · have u : ∀ a b, KD P inp y a → KD P inp y b → a = b := by
                    rintro a b ⟨_, qa⟩ ⟨_, qb⟩
                    have n1 : hbP P y = 0 → ¬ (hbP P y &&& (inp ^^^ (-1)) ≠ 0) := by
                      intro w w2
                      apply w2
                      rw [w]
                      apply b_ext
                      intro i _
                      rw [b_and, b_0]
                      rfl
                    rcases qa with ⟨rfl, w1, w2⟩ | ⟨rfl, w1, w2⟩ | ⟨rfl, w1⟩ | ⟨rfl, w1, w2⟩ <;> rcases qb with ⟨rfl, v1, v2⟩ | ⟨rfl, v1, v2⟩ | ⟨rfl, v1⟩ | ⟨rfl, v1, v2⟩ <;> first | rfl | (exfalso; first | (rw [w2] at v2; exact absurd v2 (by decide)) | (rcases v1 with v1 | v1 <;> rw [w2] at v1 <;> exact absurd v1 (by decide)) | (rcases w1 with w1 | w1 <;> rw [v2] at w1 <;> exact absurd w1 (by decide)) | exact n1 w1 v2 | exact n1 v1 w2 | (rcases w1 with w1 | w1 <;> rcases v1 with v1 | v1 <;> rw [w1] at v1 <;> exact absurd v1 (by decide)))
                  exact u k' k hk' hk
                · exact absurd hk (q k)
              rw [← this]
              exact e3
            · rcases q with q | q
              · exact absurd (hinp ▸ hid) q
              · exact absurd (hinp ▸ hk) (q k)
          rw [e3]
          simp only [zb3]
          rw [if_neg (kpos k1 k4), s2]
          simp only [zb12]
          rw [if_neg (kpos k1 k4)]
        refine zl_mono _ _ _ (sk (25 * (m + 1) + 1) _ (zl_one hstep i2)) _ (by omega)
      · rcases i11 with q | q
        · rcases p7 with w | w
          · exact Or.inl (q.trans w)
          · exact Or.inr (q.trans w)
        · exact Or.inr q
    · rw [e] at hy
      cases hy
      obtain ⟨al', hb', sk⟩ := skipR hpr hN r0 op em th ha rules st rk rb ro oS oN cs (Nat.le_refl 24) (by rw [← hinp]; exact hn) 24 0 (by omega) al hb
      obtain ⟨hd1, hd2, hd3⟩ := id hd
      subst hd1
      subst hd2
      refine ⟨d, r, P, th, ha, em, mono, num, number, vals, st, cs, kd, ys, zs, rk, rb, ro, al', hb', oS, oN, ?_, ?_, by omega, Nat.le_refl _, by omega, hpc, hpr, ht, hw, hd, Or.inl rfl, fun h => h⟩
      · refine zl_end ?_
        show f_Ps_reduce_l7 inp (nI d) (-1) th ha em vals mono num (nI r) kd ys zs = _
        unfold f_Ps_reduce_l7
        rw [if_pos rfl]
      · rw [h0]
        refine zl_mono _ _ _ (sk 1 _ (zl_end ?_)) _ (by omega)
        show f_Md_reduce_l12 r0 0 (nI N) op (nI 24) em th ha (nI r) al' hb' st number rk rb ro oS oN cs = _
        unfold f_Md_reduce_l12
        rw [if_pos ge24]
