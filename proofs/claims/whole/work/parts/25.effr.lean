/-! what comes to the polynomial: the reference's additions -/
def EffR (f : (Nat → Int32) → Option (Nat → Int32)) (e : Int32 → BitVec 3) : Prop := ∀ P num, PR P num → ∃ num', f num = some num' ∧ PR (fun m => P m + e m) num'
theorem PR_0 {P : Int32 → BitVec 3} {num : Nat → Int32} (hp : PR P num) : PR (fun m => P m + 0) num := PR_ext (fun m _ => by rw [bz]) hp
theorem effR_add {x : Int32} (hx : lo24 x) (n : Int32) : EffR (f_Md_add x n) (ct x n) := fun P num hp => by
  obtain ⟨num', h1, h2⟩ := addR hp hx n
  exact ⟨num', h1, by rw [addP_eq] at h2; exact h2⟩
theorem effR_loop {step : Int32 × (Nat → Int32) → Option ((Int32 × (Nat → Int32)) ⊕ (Nat → Int32))} (N : Nat) (hN : N < 100000) (e : Nat → Int32 → BitVec 3)
    (hs : ∀ i, i < N → ∀ P num, PR P num → ∃ num', step (nI i, num) = some (.inl (nI (i + 1), num')) ∧ PR (fun m => P m + e i m) num')
    (he : ∀ num, step (nI N, num) = some (.inr num)) : EffR (fun num => zloop step zF (0, num)) (fun m => sm (fun i => e i m) N) := by
  intro P num hp
  obtain ⟨r, h1, h2⟩ := zloop_rel (step := step) (I := fun i s => ∃ num, s = (nI i, num) ∧ PR (fun m => P m + sm (fun i => e i m) i) num) (K := fun r => PR (fun m => P m + sm (fun i => e i m) N) r) N 0 (s0 := (0, num)) hN (Nat.zero_le _)
    ⟨num, by rw [nI_0], PR_ext (fun m _ => by show P m = P m + 0; rw [bz]) hp⟩
    (fun i s hi hI => by
      obtain ⟨nu, rfl, h⟩ := hI
      obtain ⟨nu', h1, h2⟩ := hs i hi _ nu h
      exact ⟨_, h1, nu', rfl, PR_ext (fun m _ => by show P m + sm (fun i => e i m) i + e i m = P m + (sm (fun i => e i m) i + e i m); rw [BitVec.add_assoc]) h2⟩)
    (fun s hI => by
      obtain ⟨nu, rfl, h⟩ := hI
      exact ⟨_, he nu, h⟩)
  exact ⟨r, h1, h2⟩
theorem sh_t {x : Int32} {k : Nat} (hk : k < 32) (h : bt x k = true) : (x >>> (nI k &&& 31)) &&& 1 = 1 := by rw [sh1 x hk, h]; rfl
theorem sh_f {x : Int32} {k : Nat} (hk : k < 32) (h : bt x k = false) : (x >>> (nI k &&& 31)) &&& 1 = 0 := by rw [sh1 x hk, h]; rfl
def rK (x by_ fa : Int32) (j : Nat) (m : Int32) : BitVec 3 := sm (fun k => if bt x k then ct (fa ||| sb k) (4 * by_) m else 0) j
def rJ (x by_ fa : Int32) (i : Nat) (m : Int32) : BitVec 3 := sm (fun j => if bt x j then ct (fa ||| sb j) (-2 * by_) m + rK x by_ (fa ||| sb j) j m else 0) i
def rI (x by_ fa : Int32) (m : Int32) : BitVec 3 := sm (fun i => if bt x i then ct (fa ||| sb i) by_ m + rJ x by_ (fa ||| sb i) i m else 0) 24
theorem or1 {i j : Nat} (hi : i < 24) (hj : j < 24) {fa : Int32} (hf : lo24 fa) (x by_ : Int32) : EffR (fun num => zloop (fun q => f_Md_addOr_l106 x fa by_ (nI i) (nI j) q.1 q.2) zF (0, num)) (rK x by_ (fa ||| sb i ||| sb j) j) :=
  effR_loop (step := fun q => f_Md_addOr_l106 x fa by_ (nI i) (nI j) q.1 q.2) j (by omega) (fun k m => if bt x k then ct (fa ||| sb i ||| sb j ||| sb k) (4 * by_) m else 0)
    (fun k hk P num hp => by
      show ∃ num', f_Md_addOr_l106 x fa by_ (nI i) (nI j) (nI k) num = _ ∧ _
      unfold f_Md_addOr_l106
      rw [if_neg (nI_ge hk (by omega)), sbe i, sbe j, sbe k]
      cases hb : bt x k
      · rw [sh_f (by omega) hb, if_neg (by decide)]
        exact ⟨num, by simp only [zlet, nI_1], PR_0 hp⟩
      · rw [sh_t (by omega) hb, if_pos rfl]
        obtain ⟨nu, h1, h2⟩ := effR_add (lo24_or (lo24_or (lo24_or hf (lo24_sb hi)) (lo24_sb hj)) (lo24_sb (i := k) (by omega))) (4 * by_) P num hp
        rw [h1]
        exact ⟨nu, by simp only [zlet, zb1, nI_1], h2⟩)
    (fun num => by
      show f_Md_addOr_l106 x fa by_ (nI i) (nI j) (nI j) num = _
      unfold f_Md_addOr_l106
      rw [if_pos (nI_le (Nat.le_refl j) (by omega))])
theorem or2 {i : Nat} (hi : i < 24) {fa : Int32} (hf : lo24 fa) (x by_ : Int32) : EffR (fun num => zloop (fun q => f_Md_addOr_l63 x fa by_ (nI i) q.1 q.2) zF (0, num)) (rJ x by_ (fa ||| sb i) i) :=
  effR_loop (step := fun q => f_Md_addOr_l63 x fa by_ (nI i) q.1 q.2) i (by omega) (fun j m => if bt x j then ct (fa ||| sb i ||| sb j) (-2 * by_) m + rK x by_ (fa ||| sb i ||| sb j) j m else 0)
    (fun k hk P num hp => by
      show ∃ num', f_Md_addOr_l63 x fa by_ (nI i) (nI k) num = _ ∧ _
      unfold f_Md_addOr_l63
      rw [if_neg (nI_ge hk (by omega)), sbe i, sbe k]
      cases hb : bt x k
      · rw [sh_f (by omega) hb, if_pos rfl]
        exact ⟨num, by simp only [zlet, nI_1], PR_0 hp⟩
      · rw [sh_t (by omega) hb, if_neg (by decide)]
        obtain ⟨nu, h1, h2⟩ := effR_add (lo24_or (lo24_or hf (lo24_sb hi)) (lo24_sb (i := k) (by omega))) (-2 * by_) P num hp
        rw [h1]
        obtain ⟨nu2, h3, h4⟩ := or1 hi (j := k) (by omega) hf x by_ _ nu h2
        have h3 : zloop (fun q => f_Md_addOr_l106 x fa by_ (nI i) (nI k) q.1 q.2) zF ((0 : Int32), nu) = some nu2 := h3
        simp only [zb1]
        rw [h3]
        exact ⟨nu2, by simp only [zlet, nI_1], PR_ext (fun m _ => by simp [BitVec.add_assoc]) h4⟩)
    (fun num => by
      show f_Md_addOr_l63 x fa by_ (nI i) (nI i) num = _
      unfold f_Md_addOr_l63
      rw [if_pos (nI_le (Nat.le_refl i) (by omega))])
theorem or3 {fa : Int32} (hf : lo24 fa) (x by_ : Int32) : EffR (f_Md_addOr_j25 x fa by_) (rI x by_ fa) := by
  intro P num hp
  unfold f_Md_addOr_j25
  obtain ⟨nu, h1, h2⟩ := effR_loop (step := fun q => f_Md_addOr_l28 x fa by_ q.1 q.2) 24 (by omega) (fun i m => if bt x i then ct (fa ||| sb i) by_ m + rJ x by_ (fa ||| sb i) i m else 0)
    (fun k hk P num hp => by
      show ∃ num', f_Md_addOr_l28 x fa by_ (nI k) num = _ ∧ _
      unfold f_Md_addOr_l28
      rw [if_neg (lt24 hk), sbe k]
      cases hb : bt x k
      · rw [sh_f (by omega) hb, if_pos rfl]
        exact ⟨num, by simp only [zlet, nI_1], PR_0 hp⟩
      · rw [sh_t (by omega) hb, if_neg (by decide)]
        obtain ⟨nu, h1, h2⟩ := effR_add (lo24_or hf (lo24_sb hk)) by_ P num hp
        rw [h1]
        obtain ⟨nu2, h3, h4⟩ := or2 hk hf x by_ _ nu h2
        have h3 : zloop (fun q => f_Md_addOr_l63 x fa by_ (nI k) q.1 q.2) zF ((0 : Int32), nu) = some nu2 := h3
        simp only [zb1]
        rw [h3]
        exact ⟨nu2, by simp only [zlet, nI_1], PR_ext (fun m _ => by simp [BitVec.add_assoc]) h4⟩)
    (fun num => by
      show f_Md_addOr_l28 x fa by_ (nI 24) num = _
      unfold f_Md_addOr_l28
      rw [if_pos ge24]) P num hp
  have h1 : zloop (fun q => f_Md_addOr_l28 x fa by_ q.1 q.2) zF ((0 : Int32), num) = some nu := h1
  rw [h1]
  exact ⟨nu, rfl, h2⟩
/-- what addOr(x, c, n, fa) adds -/
def eOr (x c n fa : Int32) (m : Int32) : BitVec 3 := if c = 1 then ct fa n m + rI x (-n) fa m else rI x n fa m
theorem orR {fa : Int32} (hf : lo24 fa) (x c n : Int32) : EffR (f_Md_addOr x c n fa) (eOr x c n fa) := by
  intro P num hp
  unfold f_Md_addOr f_Md_addOr_j11
  by_cases hc : c = 1
  · rw [if_pos hc, if_pos hc]
    obtain ⟨nu, h1, h2⟩ := effR_add hf n P num hp
    rw [h1]
    obtain ⟨nu2, h3, h4⟩ := or3 hf x (-n) _ nu h2
    exact ⟨nu2, h3, PR_ext (fun m _ => by simp [eOr, hc, BitVec.add_assoc]) h4⟩
  · rw [if_neg hc, if_neg hc]
    obtain ⟨nu2, h3, h4⟩ := or3 hf x n _ num hp
    exact ⟨nu2, h3, PR_ext (fun m _ => by simp [eOr, hc]) h4⟩
/-- what addHalf adds, of a wire with the set s and the constant c -/
def eH (s c fa : Int32) (m : Int32) : BitVec 3 := (if c = 1 then ct fa 4 m else 0) + sm (fun i => if bt s i then ct (fa ||| sb i) 4 m else 0) 24
theorem halfR {w : Nat} (hw : w < 6) {fa : Int32} (hf : lo24 fa) (cs st : Nat → Int32) : EffR (fun num => f_Md_addHalf (nI w) fa cs num st) (eH (st w) (cs w) fa) := by
  have hj : EffR (fun num => f_Md_addHalf_j16 (nI w) fa cs num st) (fun m => sm (fun i => if bt (st w) i then ct (fa ||| sb i) 4 m else 0) 24) := by
    intro P num hp
    show ∃ num', f_Md_addHalf_j16 (nI w) fa cs num st = _ ∧ _
    unfold f_Md_addHalf_j16
    obtain ⟨nu, h1, h2⟩ := effR_loop (step := fun q => f_Md_addHalf_l18 (nI w) fa cs st q.1 q.2) 24 (by omega) (fun i m => if bt (st w) i then ct (fa ||| sb i) 4 m else 0)
      (fun k hk P num hp => by
        show ∃ num', f_Md_addHalf_l18 (nI w) fa cs st (nI k) num = _ ∧ _
        unfold f_Md_addHalf_l18
        rw [if_neg (lt24 hk), sbe k, if_neg (in_nI hw (by omega)), clampI (by omega)]
        cases hb : bt (st w) k
        · rw [sh_f (by omega) hb, if_neg (by decide)]
          exact ⟨num, by simp only [zlet, nI_1], PR_0 hp⟩
        · rw [sh_t (by omega) hb, if_pos rfl]
          obtain ⟨nu, h1, h2⟩ := effR_add (lo24_or hf (lo24_sb hk)) 4 P num hp
          rw [h1]
          exact ⟨nu, by simp only [zlet, zb1, nI_1], h2⟩)
      (fun num => by
        show f_Md_addHalf_l18 (nI w) fa cs st (nI 24) num = _
        unfold f_Md_addHalf_l18
        rw [if_pos ge24]) P num hp
    have h1 : zloop (fun q => f_Md_addHalf_l18 (nI w) fa cs st q.1 q.2) zF ((0 : Int32), num) = some nu := h1
    rw [h1]
    exact ⟨nu, rfl, h2⟩
  intro P num hp
  show ∃ num', f_Md_addHalf (nI w) fa cs num st = _ ∧ _
  unfold f_Md_addHalf
  rw [if_neg (in_nI hw (by omega)), clampI (by omega)]
  by_cases hc : cs w = 1
  · rw [if_pos hc]
    obtain ⟨nu, h1, h2⟩ := effR_add hf 4 P num hp
    rw [h1]
    obtain ⟨nu2, h3, h4⟩ := hj _ nu h2
    exact ⟨nu2, h3, PR_ext (fun m _ => by simp [eH, hc, BitVec.add_assoc]) h4⟩
  · rw [if_neg hc]
    obtain ⟨nu2, h3, h4⟩ := hj _ num hp
    exact ⟨nu2, h3, PR_ext (fun m _ => by simp [eH, hc]) h4⟩
def eW (s c s2 c2 fa : Int32) (m : Int32) : BitVec 3 := (if c = 1 then eH s2 c2 fa m else 0) + sm (fun i => if bt s i then eH s2 c2 (fa ||| sb i) m else 0) 24
theorem twoR {v w : Nat} (hv : v < 6) (hw : w < 6) {fa : Int32} (hf : lo24 fa) (cs st : Nat → Int32) : EffR (fun num => f_Md_addTwo (nI v) (nI w) fa cs num st) (eW (st v) (cs v) (st w) (cs w) fa) := by
  have hj : EffR (fun num => f_Md_addTwo_j16 (nI v) (nI w) fa cs num st) (fun m => sm (fun i => if bt (st v) i then eH (st w) (cs w) (fa ||| sb i) m else 0) 24) := by
    intro P num hp
    show ∃ num', f_Md_addTwo_j16 (nI v) (nI w) fa cs num st = _ ∧ _
    unfold f_Md_addTwo_j16
    obtain ⟨nu, h1, h2⟩ := effR_loop (step := fun q => f_Md_addTwo_l19 (nI v) (nI w) fa cs st q.1 q.2) 24 (by omega) (fun i m => if bt (st v) i then eH (st w) (cs w) (fa ||| sb i) m else 0)
      (fun k hk P num hp => by
        show ∃ num', f_Md_addTwo_l19 (nI v) (nI w) fa cs st (nI k) num = _ ∧ _
        unfold f_Md_addTwo_l19
        rw [if_neg (lt24 hk), sbe k, if_neg (in_nI hv (by omega)), clampI (by omega)]
        cases hb : bt (st v) k
        · rw [sh_f (by omega) hb, if_neg (by decide)]
          exact ⟨num, by simp only [zlet, nI_1], PR_0 hp⟩
        · rw [sh_t (by omega) hb, if_pos rfl]
          obtain ⟨nu, h1, h2⟩ := halfR hw (lo24_or hf (lo24_sb hk)) cs st P num hp
          have h1 : f_Md_addHalf (nI w) (fa ||| sb k) cs num st = some nu := h1
          rw [h1]
          exact ⟨nu, by simp only [zlet, zb1, nI_1], h2⟩)
      (fun num => by
        show f_Md_addTwo_l19 (nI v) (nI w) fa cs st (nI 24) num = _
        unfold f_Md_addTwo_l19
        rw [if_pos ge24]) P num hp
    have h1 : zloop (fun q => f_Md_addTwo_l19 (nI v) (nI w) fa cs st q.1 q.2) zF ((0 : Int32), num) = some nu := h1
    rw [h1]
    exact ⟨nu, rfl, h2⟩
  intro P num hp
  show ∃ num', f_Md_addTwo (nI v) (nI w) fa cs num st = _ ∧ _
  unfold f_Md_addTwo
  rw [if_neg (in_nI hv (by omega)), clampI (by omega)]
  by_cases hc : cs v = 1
  · rw [if_pos hc]
    obtain ⟨nu, h1, h2⟩ := halfR hw hf cs st P num hp
    have h1 : f_Md_addHalf (nI w) fa cs num st = some nu := h1
    rw [h1]
    obtain ⟨nu2, h3, h4⟩ := hj _ nu h2
    exact ⟨nu2, h3, PR_ext (fun m _ => by simp [eW, hc, BitVec.add_assoc]) h4⟩
  · rw [if_neg hc]
    obtain ⟨nu2, h3, h4⟩ := hj _ num hp
    exact ⟨nu2, h3, PR_ext (fun m _ => by simp [eW, hc]) h4⟩
def eU (s c s2 c2 s3 c3 : Int32) (m : Int32) : BitVec 3 := (if c = 1 then eW s2 c2 s3 c3 0 m else 0) + sm (fun i => if bt s i then eW s2 c2 s3 c3 (sb i) m else 0) 24
theorem threeR {u v w : Nat} (hu : u < 6) (hv : v < 6) (hw : w < 6) (cs st : Nat → Int32) : EffR (fun num => f_Md_addThree (nI u) (nI v) (nI w) cs num st) (eU (st u) (cs u) (st v) (cs v) (st w) (cs w)) := by
  have hj : EffR (fun num => f_Md_addThree_j17 (nI u) (nI v) (nI w) cs num st) (fun m => sm (fun i => if bt (st u) i then eW (st v) (cs v) (st w) (cs w) (sb i) m else 0) 24) := by
    intro P num hp
    show ∃ num', f_Md_addThree_j17 (nI u) (nI v) (nI w) cs num st = _ ∧ _
    unfold f_Md_addThree_j17
    obtain ⟨nu, h1, h2⟩ := effR_loop (step := fun q => f_Md_addThree_l20 (nI u) (nI v) (nI w) cs st q.1 q.2) 24 (by omega) (fun i m => if bt (st u) i then eW (st v) (cs v) (st w) (cs w) (sb i) m else 0)
      (fun k hk P num hp => by
        show ∃ num', f_Md_addThree_l20 (nI u) (nI v) (nI w) cs st (nI k) num = _ ∧ _
        unfold f_Md_addThree_l20
        rw [if_neg (lt24 hk), sbe k, if_neg (in_nI hu (by omega)), clampI (by omega)]
        cases hb : bt (st u) k
        · rw [sh_f (by omega) hb, if_neg (by decide)]
          exact ⟨num, by simp only [zlet, nI_1], PR_0 hp⟩
        · rw [sh_t (by omega) hb, if_pos rfl]
          obtain ⟨nu, h1, h2⟩ := twoR hv hw (lo24_sb hk) cs st P num hp
          have h1 : f_Md_addTwo (nI v) (nI w) (sb k) cs num st = some nu := h1
          rw [h1]
          exact ⟨nu, by simp only [zlet, zb1, nI_1], h2⟩)
      (fun num => by
        show f_Md_addThree_l20 (nI u) (nI v) (nI w) cs st (nI 24) num = _
        unfold f_Md_addThree_l20
        rw [if_pos ge24]) P num hp
    have h1 : zloop (fun q => f_Md_addThree_l20 (nI u) (nI v) (nI w) cs st q.1 q.2) zF ((0 : Int32), num) = some nu := h1
    rw [h1]
    exact ⟨nu, rfl, h2⟩
  intro P num hp
  show ∃ num', f_Md_addThree (nI u) (nI v) (nI w) cs num st = _ ∧ _
  unfold f_Md_addThree
  rw [if_neg (in_nI hu (by omega)), clampI (by omega)]
  by_cases hc : cs u = 1
  · rw [if_pos hc]
    obtain ⟨nu, h1, h2⟩ := twoR hv hw lo24_0 cs st P num hp
    have h1 : f_Md_addTwo (nI v) (nI w) 0 cs num st = some nu := h1
    rw [h1]
    obtain ⟨nu2, h3, h4⟩ := hj _ nu h2
    exact ⟨nu2, h3, PR_ext (fun m _ => by simp [eU, hc, BitVec.add_assoc]) h4⟩
  · rw [if_neg hc]
    obtain ⟨nu2, h3, h4⟩ := hj _ num hp
    exact ⟨nu2, h3, PR_ext (fun m _ => by simp [eU, hc]) h4⟩
