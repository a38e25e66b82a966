/-! what comes to the polynomial: the class's additions -/
theorem bz (a : BitVec 3) : a + 0 = a := BitVec.add_zero a
theorem zb (a : BitVec 3) : 0 + a = a := BitVec.zero_add a
/-- n at the mask x -/
def ct (x n m : Int32) : BitVec 3 := if m = x then pi3 n else 0
theorem addP_eq (P : Int32 → BitVec 3) (x n : Int32) : addP P x n = fun m => P m + ct x n m := by
  funext m
  unfold addP ct
  by_cases h : m = x
  · rw [if_pos h, if_pos h]
  · rw [if_neg h, if_neg h, bz]
/-- a sum of the first n -/
def sm (f : Nat → BitVec 3) : Nat → BitVec 3
  | 0 => 0
  | n + 1 => sm f n + f n
theorem sm_congr {f g : Nat → BitVec 3} : ∀ n, (∀ i, i < n → f i = g i) → sm f n = sm g n
  | 0, _ => rfl
  | n + 1, h => by
    unfold sm
    rw [sm_congr n (fun i hi => h i (by omega)), h n (by omega)]
theorem sm_zero {f : Nat → BitVec 3} : ∀ n, (∀ i, i < n → f i = 0) → sm f n = 0
  | 0, _ => rfl
  | n + 1, h => by
    unfold sm
    rw [sm_zero n (fun i hi => h i (by omega)), h n (by omega), bz]
theorem sbe (k : Nat) : (1 : Int32) <<< (nI k &&& 31) = sb k := rfl
theorem has_t {x : Int32} {k : Nat} (hk : k < 32) (h : bt x k = true) : f_Ps_has x (nI k) = 1 := by rw [has_eq x hk, h]; rfl
theorem has_f {x : Int32} {k : Nat} (hk : k < 32) (h : bt x k = false) : f_Ps_has x (nI k) = 0 := by rw [has_eq x hk, h]; rfl
/-- a function of the class adds e to the polynomial, nothing else -/
def EffC (f : Int32 → (Nat → Int32) → Option (Int32 × (Nat → Int32))) (e : Int32 → BitVec 3) : Prop := ∀ P mono num, PC P mono num → ∃ mono' num', f mono num = some (mono', num') ∧ PC (fun m => P m + e m) mono' num'
theorem effC_add {x : Int32} (hx : lo24 x) (n : Int32) : EffC (f_Po_add x n) (ct x n) := fun P mono num hp => by
  obtain ⟨mono', num', h1, h2⟩ := addC hp hx n
  exact ⟨mono', num', h1, by rw [addP_eq] at h2; exact h2⟩
theorem effC_loop {step : Int32 × Int32 × (Nat → Int32) → Option ((Int32 × Int32 × (Nat → Int32)) ⊕ (Int32 × (Nat → Int32)))} (N : Nat) (hN : N < 100000) (e : Nat → Int32 → BitVec 3)
    (hs : ∀ i, i < N → ∀ P mono num, PC P mono num → ∃ mono' num', step (nI i, mono, num) = some (.inl (nI (i + 1), mono', num')) ∧ PC (fun m => P m + e i m) mono' num')
    (he : ∀ mono num, step (nI N, mono, num) = some (.inr (mono, num))) : EffC (fun mono num => zloop step zF (0, mono, num)) (fun m => sm (fun i => e i m) N) := by
  intro P mono num hp
  obtain ⟨r, h1, h2⟩ := zloop_rel (step := step) (I := fun i s => ∃ mono num, s = (nI i, mono, num) ∧ PC (fun m => P m + sm (fun i => e i m) i) mono num) (K := fun r => PC (fun m => P m + sm (fun i => e i m) N) r.1 r.2) N 0 (s0 := (0, mono, num)) hN (Nat.zero_le _)
    ⟨mono, num, by rw [nI_0], PC_ext (fun m _ => by show P m = P m + 0; rw [bz]) hp⟩
    (fun i s hi hI => by
      obtain ⟨mo, nu, rfl, h⟩ := hI
      obtain ⟨mo', nu', h1, h2⟩ := hs i hi _ mo nu h
      exact ⟨_, h1, mo', nu', rfl, PC_ext (fun m _ => by show P m + sm (fun i => e i m) i + e i m = P m + (sm (fun i => e i m) i + e i m); rw [BitVec.add_assoc]) h2⟩)
    (fun s hI => by
      obtain ⟨mo, nu, rfl, h⟩ := hI
      exact ⟨_, he mo nu, h⟩)
  exact ⟨r.1, r.2, h1, h2⟩
theorem PC_0 {P : Int32 → BitVec 3} {mono : Int32} {num : Nat → Int32} (hp : PC P mono num) : PC (fun m => P m + 0) mono num := PC_ext (fun m _ => by rw [bz]) hp
theorem PC_2 {P e f : Int32 → BitVec 3} {mono : Int32} {num : Nat → Int32} (hp : PC (fun m => (fun m => P m + e m) m + f m) mono num) : PC (fun m => P m + (e m + f m)) mono num := PC_ext (fun m _ => by rw [BitVec.add_assoc]) hp
def eTr (x fa : Int32) (j : Nat) (m : Int32) : BitVec 3 := sm (fun k => if bt x k then ct (fa ||| sb k) 4 m else 0) j
theorem triC {j : Nat} (hj : j ≤ 24) {fa : Int32} (hf : lo24 fa) (x : Int32) : EffC (f_Po_addTriplesBelow (nI j) x fa) (eTr x fa j) := by
  intro P mono num hp
  unfold f_Po_addTriplesBelow
  obtain ⟨mo, nu, h1, h2⟩ := effC_loop (step := fun q => f_Po_addTriplesBelow_l3 (nI j) x fa q.1 q.2.1 q.2.2) j (by omega) (fun k m => if bt x k then ct (fa ||| sb k) 4 m else 0)
    (fun k hk P mono num hp => by
      show ∃ mono' num', f_Po_addTriplesBelow_l3 (nI j) x fa (nI k) mono num = _ ∧ _
      unfold f_Po_addTriplesBelow_l3
      rw [if_neg (nI_ge hk (by omega)), sbe k]
      cases hb : bt x k
      · rw [has_f (by omega) hb, if_pos rfl]
        exact ⟨mono, num, by simp only [zlet, nI_1], PC_0 hp⟩
      · rw [has_t (by omega) hb, if_neg (by decide)]
        obtain ⟨mo, nu, h1, h2⟩ := effC_add (lo24_or hf (lo24_sb (i := k) (by omega))) 4 P mono num hp
        rw [h1]
        exact ⟨mo, nu, by simp only [zlet, zb2, nI_1], h2⟩)
    (fun mono num => by
      show f_Po_addTriplesBelow_l3 (nI j) x fa (nI j) mono num = _
      unfold f_Po_addTriplesBelow_l3
      rw [if_pos (nI_le (Nat.le_refl j) (by omega))]) P mono num hp
  have h1 : zloop (fun q => f_Po_addTriplesBelow_l3 (nI j) x fa q.1 q.2.1 q.2.2) zF ((0 : Int32), mono, num) = some (mo, nu) := h1
  rw [h1]
  exact ⟨mo, nu, rfl, h2⟩
def ePa (x : Int32) (sg : Int32) (fa : Int32) (i : Nat) (m : Int32) : BitVec 3 := sm (fun j => if bt x j then ct (fa ||| sb j) (-2 * sg) m + (if bt sg 0 then eTr x (fa ||| sb j) j m else 0) else 0) i
theorem pairC {i : Nat} (hi : i ≤ 24) {fa : Int32} (hf : lo24 fa) (sg x : Int32) : EffC (f_Po_addPairsBelow (nI i) sg x fa) (ePa x sg fa i) := by
  intro P mono num hp
  unfold f_Po_addPairsBelow
  obtain ⟨mo, nu, h1, h2⟩ := effC_loop (step := fun q => f_Po_addPairsBelow_l3 (nI i) sg x fa q.1 q.2.1 q.2.2) i (by omega) (fun j m => if bt x j then ct (fa ||| sb j) (-2 * sg) m + (if bt sg 0 then eTr x (fa ||| sb j) j m else 0) else 0)
    (fun k hk P mono num hp => by
      show ∃ mono' num', f_Po_addPairsBelow_l3 (nI i) sg x fa (nI k) mono num = _ ∧ _
      unfold f_Po_addPairsBelow_l3
      rw [if_neg (nI_ge hk (by omega)), sbe k]
      have hl := lo24_or hf (lo24_sb (i := k) (by omega))
      cases hb : bt x k
      · rw [has_f (by omega) hb, if_pos rfl]
        exact ⟨mono, num, by simp only [zlet, nI_1], PC_0 hp⟩
      · rw [has_t (by omega) hb, if_neg (by decide)]
        obtain ⟨mo, nu, h1, h2⟩ := effC_add hl (-2 * sg) P mono num hp
        rw [h1]
        have e0 : f_Ps_has sg 0 = f_Ps_has sg (nI 0) := by rw [nI_0]
        simp only [zb2, e0]
        cases hs : bt sg 0
        · rw [has_f (by omega) hs, if_pos rfl]
          exact ⟨mo, nu, by simp only [zlet, nI_1], PC_ext (fun m _ => by simp) h2⟩
        · rw [has_t (by omega) hs, if_neg (by decide)]
          obtain ⟨mo2, nu2, h3, h4⟩ := triC (j := k) (by omega) hl x _ mo nu h2
          rw [h3]
          exact ⟨mo2, nu2, by simp only [zlet, zb2, nI_1], PC_ext (fun m _ => by simp [BitVec.add_assoc]) h4⟩)
    (fun mono num => by
      show f_Po_addPairsBelow_l3 (nI i) sg x fa (nI i) mono num = _
      unfold f_Po_addPairsBelow_l3
      rw [if_pos (nI_le (Nat.le_refl i) (by omega))]) P mono num hp
  have h1 : zloop (fun q => f_Po_addPairsBelow_l3 (nI i) sg x fa q.1 q.2.1 q.2.2) zF ((0 : Int32), mono, num) = some (mo, nu) := h1
  rw [h1]
  exact ⟨mo, nu, rfl, h2⟩
def eXj (x sg fa : Int32) (m : Int32) : BitVec 3 := sm (fun i => if bt x i then ct (fa ||| sb i) sg m + (if sg &&& 3 = 0 then 0 else ePa x sg (fa ||| sb i) i m) else 0) 24
theorem xorJC {fa : Int32} (hf : lo24 fa) (sg x : Int32) : EffC (f_Po_addXor_j22 x fa sg) (eXj x sg fa) := by
  intro P mono num hp
  unfold f_Po_addXor_j22
  obtain ⟨mo, nu, h1, h2⟩ := effC_loop (step := fun q => f_Po_addXor_l25 x fa sg q.1 q.2.1 q.2.2) 24 (by omega) (fun i m => if bt x i then ct (fa ||| sb i) sg m + (if sg &&& 3 = 0 then 0 else ePa x sg (fa ||| sb i) i m) else 0)
    (fun k hk P mono num hp => by
      show ∃ mono' num', f_Po_addXor_l25 x fa sg (nI k) mono num = _ ∧ _
      unfold f_Po_addXor_l25
      rw [if_neg (lt24 hk), sbe k]
      have hl := lo24_or hf (lo24_sb (i := k) (by omega))
      cases hb : bt x k
      · rw [has_f (by omega) hb, if_pos rfl]
        exact ⟨mono, num, by simp only [zlet, nI_1], PC_0 hp⟩
      · rw [has_t (by omega) hb, if_neg (by decide)]
        obtain ⟨mo, nu, h1, h2⟩ := effC_add hl sg P mono num hp
        rw [h1]
        simp only [zb2]
        by_cases hs : sg &&& 3 = 0
        · rw [if_pos hs]
          exact ⟨mo, nu, by simp only [zlet, nI_1], PC_ext (fun m _ => by simp [hs]) h2⟩
        · rw [if_neg hs]
          obtain ⟨mo2, nu2, h3, h4⟩ := pairC (i := k) (by omega) hl sg x _ mo nu h2
          rw [h3]
          exact ⟨mo2, nu2, by simp only [zlet, zb2, nI_1], PC_ext (fun m _ => by simp [hs, BitVec.add_assoc]) h4⟩)
    (fun mono num => by
      show f_Po_addXor_l25 x fa sg (nI 24) mono num = _
      unfold f_Po_addXor_l25
      rw [if_pos ge24]) P mono num hp
  have h1 : zloop (fun q => f_Po_addXor_l25 x fa sg q.1 q.2.1 q.2.2) zF ((0 : Int32), mono, num) = some (mo, nu) := h1
  rw [h1]
  exact ⟨mo, nu, rfl, h2⟩
/-- what addXor(n, x, fa) adds -/
def eXo (n x fa : Int32) (m : Int32) : BitVec 3 := if bt x 24 then ct fa n m + eXj x (-n) fa m else eXj x n fa m
theorem xorC {fa : Int32} (hf : lo24 fa) (n x : Int32) : EffC (f_Po_addXor n x fa) (eXo n x fa) := by
  intro P mono num hp
  unfold f_Po_addXor
  have e0 : f_Ps_has x 24 = f_Ps_has x (nI 24) := rfl
  rw [e0]
  cases hb : bt x 24
  · rw [has_f (by omega) hb, if_pos rfl]
    obtain ⟨mo, nu, h1, h2⟩ := xorJC hf n x P mono num hp
    exact ⟨mo, nu, h1, PC_ext (fun m _ => by simp [eXo, hb]) h2⟩
  · rw [has_t (by omega) hb, if_neg (by decide)]
    obtain ⟨mo, nu, h1, h2⟩ := effC_add hf n P mono num hp
    rw [h1]
    obtain ⟨mo2, nu2, h3, h4⟩ := xorJC hf (-n) x _ mo nu h2
    exact ⟨mo2, nu2, by simp only [zlet, zb2]; exact h3, PC_ext (fun m _ => by simp [eXo, hb, BitVec.add_assoc]) h4⟩
