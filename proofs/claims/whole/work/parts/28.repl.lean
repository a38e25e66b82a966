/-! a bit is replaced: the class -/
theorem lo24_of_all {m : Int32} (h : m ∈ ALLC) : lo24 m := by
  have ht : ALLC.all (fun m => (List.range 8).all (fun i => !bt m (24 + i))) = true := by decide +kernel
  intro i hi h24
  have h1 := List.all_eq_true.mp (List.all_eq_true.mp ht m h) (i - 24) (List.mem_range.mpr (by omega))
  rw [show 24 + (i - 24) = i by omega] at h1
  simpa using h1
/-- a mask without the bit z -/
def wo (R : Int32) (z : Nat) : Int32 := R &&& (sb z ^^^ (-1))
theorem bt_wo (R : Int32) {z k : Nat} (hz : z < 24) (hk : k < 32) : bt (wo R z) k = (bt R k && decide (k ≠ z)) := by
  unfold wo
  rw [b_and, bt_not _ hk, bt_sb (by omega) hk]
  by_cases e : z = k
  · subst e; simp
  · simp [e, Ne.symm e]
theorem lo24_wo {R : Int32} (h : lo24 R) (z : Nat) : lo24 (wo R z) := lo24_and h _
theorem wo_no (R : Int32) {z : Nat} (hz : z < 24) : bt (wo R z) z = false := by rw [bt_wo R hz (by omega)]; simp
/-- the number of masks with the bit z, spread out -/
def LZ (z : Nat) (s c : Int32) (P : Int32 → BitVec 3) (m : Int32) : BitVec 3 := RS z (fun R => P R * eOr s c 1 (wo R z) m)
/-- the polynomial with the exclusive or of s and c in the place of z -/
def repP (P : Int32 → BitVec 3) (z : Nat) (s c : Int32) : Int32 → BitVec 3 := fun m => if bt m z = true then 0 else P m + LZ z s c P m
def qstep (z : Nat) (s c : Int32) (P : Int32 → BitVec 3) (S : Int32) : Int32 → BitVec 3 := fun m => (P m + ct S (-(toI (P S))) m) + eOr s c (toI (P S)) (wo S z) m
theorem pi3_neg (n : Int32) : pi3 (-n) = -(pi3 n) := by
  rw [← i32_neg_mul, pi3_mul]
  generalize pi3 n = b
  revert b
  decide
theorem qstep_S {z : Nat} (hz : z < 24) {s c : Int32} (hs : bt s z = false) (P : Int32 → BitVec 3) {S : Int32} (hS : bt S z = true) : qstep z s c P S S = 0 := by
  unfold qstep
  rw [eOr_no hz hS hs (wo_no S hz), bz]
  unfold ct
  rw [if_pos rfl, pi3_neg, pi3_toI]
  exact BitVec.add_right_neg _
theorem qstep_z {z : Nat} (hz : z < 24) {s c : Int32} (hs : bt s z = false) (P : Int32 → BitVec 3) (S : Int32) {m : Int32} (hm : bt m z = true) (hne : m ≠ S) : qstep z s c P S m = P m := by
  unfold qstep
  rw [eOr_no hz hm hs (wo_no S hz), bz]
  unfold ct
  rw [if_neg hne, bz]
/-- what stays the same: the polynomial and what would come of the masks with z -/
theorem qstep_T {z a b : Nat} (hz : z < 24) (ha : a < 24) (hb : b ≤ a) {s c : Int32} (hs : bt s z = false) (P : Int32 → BitVec 3) {m : Int32} (hm : bt m z = false) : qstep z s c P (Sz z a b) m + LZ z s c (qstep z s c P (Sz z a b)) m = P m + LZ z s c P m := by
  have hSz : ∀ p q, p < 24 → q ≤ p → bt (Sz z p q) z = true := fun p q hp hq => (bt_Sz hz hp (by omega) (by omega)).mpr (Or.inl rfl)
  have h1 : LZ z s c (qstep z s c P (Sz z a b)) m = LZ z s c P m + (-(P (Sz z a b) * eOr s c 1 (wo (Sz z a b) z) m)) := by
    unfold LZ
    refine RS_upd hz ha hb (fun p q hp hq hne => ?_) ?_
    · rw [qstep_z hz hs P _ (hSz p q hp hq) hne]
    · rw [qstep_S hz hs P (hSz a b ha hb)]
      rw [BitVec.add_right_neg]
      exact BitVec.zero_mul
  rw [h1]
  unfold qstep
  have h2 : ct (Sz z a b) (-(toI (P (Sz z a b)))) m = 0 := by
    unfold ct
    rw [if_neg]
    intro q
    rw [q, hSz a b ha hb] at hm
    cases hm
  rw [h2, bz, eOr_mul, pi3_toI]
  generalize P (Sz z a b) * eOr s c 1 (wo (Sz z a b) z) m = t
  rw [BitVec.add_assoc, ← BitVec.add_assoc t, BitVec.add_comm t, BitVec.add_assoc, BitVec.add_right_neg]
  show P m + (LZ z s c P m + 0) = _
  rw [bz]
theorem ltI {a b : Nat} (h : a ≤ b) (hb : b < 2 ^ 31) : ¬ nI b < nI a := nI_nlt h hb
theorem gtI {a b : Nat} (h : a < b) (hb : b < 2 ^ 31) : nI a < nI b := nI_lt h hb
/-- what holds between two steps of replaceBit: what is visited is 0, the whole is the same -/
def RI (P0 : Int32 → BitVec 3) (z : Nat) (s c : Int32) (vis : Nat → Nat → Prop) (P : Int32 → BitVec 3) : Prop := (∀ a b, a < 24 → b ≤ a → vis a b → P (Sz z a b) = 0) ∧ (∀ m, bt m z = false → P m + LZ z s c P m = P0 m + LZ z s c P0 m)
theorem RI_step {P0 P : Int32 → BitVec 3} {z i j : Nat} (hz : z < 24) (hi : i < 24) (hj : j ≤ i) {s c : Int32} (hs : bt s z = false) {vis vis' : Nat → Nat → Prop} (h : RI P0 z s c vis P) (hv : ∀ a b, vis' a b → vis a b ∨ (a = i ∧ b = j)) : RI P0 z s c vis' (qstep z s c P (Sz z i j)) := by
  refine ⟨fun a b ha hb hvis => ?_, fun m hm => ?_⟩
  · have hSz : ∀ p q, p < 24 → q ≤ p → bt (Sz z p q) z = true := fun p q hp hq => (bt_Sz hz hp (by omega) (by omega)).mpr (Or.inl rfl)
    by_cases e : Sz z a b = Sz z i j
    · rw [e]
      exact qstep_S hz hs P (hSz i j hi hj)
    · rw [qstep_z hz hs P _ (hSz a b ha hb) e]
      rcases hv a b hvis with h1 | ⟨rfl, rfl⟩
      · exact h.1 a b ha hb h1
      · exact absurd rfl e
  · rw [qstep_T hz hi hj hs P hm]
    exact h.2 m hm
theorem wo_sb (S : Int32) (z : Nat) : S &&& (((1 : Int32) <<< (nI z &&& 31)) ^^^ (-1)) = wo S z := rfl
/-- one step of replaceBit -/
theorem repl1 {P : Int32 → BitVec 3} {mono : Int32} {num : Nat → Int32} (hp : PC P mono num) {z i j : Nat} (hz : z < 24) (hi : i < 24) (hj : j ≤ i) {v s c : Int32} (hv : Rv v s c) (hs : bt s z = false) :
    ∃ mono' num', f_Po_replaceBit_l11 (nI z) v (nI i) (nI j) mono num = some (.inl (nI (j + 1), mono', num')) ∧ PC (qstep z s c P (Sz z i j)) mono' num' := by
  unfold f_Po_replaceBit_l11
  rw [if_neg (ltI hj (by omega))]
  simp only [zlet]
  have hS : Sz z i j ∈ ALLC := Sz_all hz hi (by omega)
  have hn := numC hp hS
  have e : ((1 : Int32) <<< (nI z &&& 31)) ||| ((1 : Int32) <<< (nI i &&& 31)) ||| ((1 : Int32) <<< (nI j &&& 31)) = Sz z i j := rfl
  rw [e, hn]
  simp only [zb1]
  have hlo := lo24_Sz hz hi (show j < 24 by omega)
  by_cases h0 : toI (P (Sz z i j)) = 0
  · rw [if_pos h0]
    refine ⟨mono, num, by rw [nI_1], PC_ext (fun m _ => ?_) hp⟩
    unfold qstep
    rw [h0, eOr_mul]
    have e1 : pi3 (0 : Int32) = 0 := by decide
    have e2 : pi3 (-(0 : Int32)) = 0 := by decide
    rw [ct_0 e2, e1, bz]
    show P m = P m + 0 * _
    rw [show (0 : BitVec 3) * eOr s c 1 (wo (Sz z i j) z) m = 0 from BitVec.zero_mul, bz]
  · rw [if_neg h0]
    obtain ⟨mo, nu, h1, h2⟩ := effC_add hlo (-(toI (P (Sz z i j)))) P mono num hp
    rw [h1]
    simp only [zb2]
    rw [wo_sb]
    obtain ⟨mo2, nu2, h3, h4⟩ := xorC (lo24_wo hlo z) (toI (P (Sz z i j))) v _ mo nu h2
    rw [h3]
    refine ⟨mo2, nu2, by rw [nI_1], PC_ext (fun m _ => ?_) h4⟩
    unfold qstep
    rw [eXo_eOr hv]
theorem repl2 {P0 P : Int32 → BitVec 3} {mono : Int32} {num : Nat → Int32} (hp : PC P mono num) {z i : Nat} (hz : z < 24) (hi : i < 24) {v s c : Int32} (hv : Rv v s c) (hs : bt s z = false) (h0 : RI P0 z s c (fun a _ => a < i) P) :
    ∃ mono' num' P', f_Po_replaceBit_l2 (nI z) v (nI i) mono num = some (.inl (nI (i + 1), mono', num')) ∧ PC P' mono' num' ∧ RI P0 z s c (fun a _ => a < i + 1) P' := by
  unfold f_Po_replaceBit_l2
  rw [if_neg (lt24 hi)]
  obtain ⟨r, h1, P', h2, h3⟩ := zloop_rel (step := fun q : Int32 × Int32 × (Nat → Int32) => f_Po_replaceBit_l11 (nI z) v (nI i) q.1 q.2.1 q.2.2)
    (I := fun j q => ∃ mo nu P, q = (nI j, mo, nu) ∧ PC P mo nu ∧ RI P0 z s c (fun a b => a < i ∨ (a = i ∧ b < j)) P)
    (K := fun r => ∃ P', PC P' r.1 r.2 ∧ RI P0 z s c (fun a b => a < i ∨ (a = i ∧ b < i + 1)) P') (i + 1) 0 (s0 := (0, mono, num)) (by omega) (by omega)
    ⟨mono, num, P, by rw [nI_0], hp, ⟨fun a b ha hb hv => h0.1 a b ha hb (by omega), h0.2⟩⟩
    (fun j q hj hI => by
      obtain ⟨mo, nu, P, rfl, hp, hr⟩ := hI
      obtain ⟨mo', nu', h1, h2⟩ := repl1 hp hz hi (show j ≤ i by omega) hv hs
      exact ⟨_, h1, mo', nu', _, rfl, h2, RI_step hz hi (by omega) hs hr (fun a b hab => by omega)⟩)
    (fun q hI => by
      obtain ⟨mo, nu, P, rfl, hp, hr⟩ := hI
      refine ⟨(mo, nu), ?_, P, hp, hr⟩
      show f_Po_replaceBit_l11 (nI z) v (nI i) (nI (i + 1)) mo nu = _
      unfold f_Po_replaceBit_l11
      rw [if_pos (gtI (by omega) (by omega))])
  have h1 : zloop (fun q => f_Po_replaceBit_l11 (nI z) v (nI i) q.1 q.2.1 q.2.2) zF ((0 : Int32), mono, num) = some r := h1
  rw [h1]
  exact ⟨r.1, r.2, P', by simp only [zb2, zlet, nI_1], h2, ⟨fun a b ha hb hv => h3.1 a b ha hb (by omega), h3.2⟩⟩
theorem replC {P : Int32 → BitVec 3} {mono : Int32} {num : Nat → Int32} (hp : PC P mono num) {z : Nat} (hz : z < 24) {v s c : Int32} (hv : Rv v s c) (hs : bt s z = false) :
    ∃ mono' num', f_Po_replaceBit (nI z) v mono num = some (mono', num') ∧ PC (repP P z s c) mono' num' := by
  unfold f_Po_replaceBit
  obtain ⟨r, h1, P', h2, h3⟩ := zloop_rel (step := fun q : Int32 × Int32 × (Nat → Int32) => f_Po_replaceBit_l2 (nI z) v q.1 q.2.1 q.2.2)
    (I := fun i q => ∃ mo nu P', q = (nI i, mo, nu) ∧ PC P' mo nu ∧ RI P z s c (fun a _ => a < i) P')
    (K := fun r => ∃ P', PC P' r.1 r.2 ∧ RI P z s c (fun a _ => a < 24) P') 24 0 (s0 := (0, mono, num)) (by omega) (by omega)
    ⟨mono, num, P, by rw [nI_0], hp, ⟨fun a b ha hb hv => absurd hv (Nat.not_lt_zero _), fun _ _ => rfl⟩⟩
    (fun i q hi hI => by
      obtain ⟨mo, nu, P', rfl, hp, hr⟩ := hI
      obtain ⟨mo', nu', P2, h1, h2, h3⟩ := repl2 hp hz hi hv hs hr
      exact ⟨_, h1, mo', nu', P2, rfl, h2, h3⟩)
    (fun q hI => by
      obtain ⟨mo, nu, P', rfl, hp, hr⟩ := hI
      refine ⟨(mo, nu), ?_, P', hp, hr⟩
      show f_Po_replaceBit_l2 (nI z) v (nI 24) mo nu = _
      unfold f_Po_replaceBit_l2
      rw [if_pos ge24])
  have h1 : zloop (fun q => f_Po_replaceBit_l2 (nI z) v q.1 q.2.1 q.2.2) zF ((0 : Int32), mono, num) = some r := h1
  rw [h1]
  refine ⟨r.1, r.2, rfl, PC_ext (fun m hm => ?_) h2⟩
  unfold repP
  by_cases hb : bt m z = true
  · rw [if_pos hb]
    obtain ⟨a, b, ha, hba, rfl⟩ := Sz_of hm hz (lo24_of_all hm) hb
    exact h3.1 a b ha hba ha
  · rw [if_neg hb]
    have hb : bt m z = false := by simpa using hb
    have h4 := h3.2 m hb
    have h5 : LZ z s c P' m = 0 := by
      unfold LZ
      refine RS_zero (fun a b ha hba => ?_)
      rw [h3.1 a b ha hba ha]
      exact BitVec.zero_mul
    rw [h5, bz] at h4
    exact h4
/-- replacing by 0: the masks with the bit go -/
def dropP (P : Int32 → BitVec 3) (z : Nat) : Int32 → BitVec 3 := fun m => if bt m z = true then 0 else P m
theorem Rv_0 : Rv 0 0 0 := ⟨fun _ _ => rfl, by decide⟩
theorem rI_zero (k fa m : Int32) : rI 0 k fa m = 0 := by
  unfold rI
  refine sm_zero 24 (fun i _ => ?_)
  rw [b_0]
  rfl
theorem dropC {P : Int32 → BitVec 3} {mono : Int32} {num : Nat → Int32} (hp : PC P mono num) {z : Nat} (hz : z < 24) :
    ∃ mono' num', f_Po_replaceBit (nI z) 0 mono num = some (mono', num') ∧ PC (dropP P z) mono' num' := by
  obtain ⟨mo, nu, h1, h2⟩ := replC hp hz Rv_0 (b_0 z)
  refine ⟨mo, nu, h1, PC_ext (fun m _ => ?_) h2⟩
  unfold repP dropP
  by_cases hb : bt m z = true
  · rw [if_pos hb, if_pos hb]
  · rw [if_neg hb, if_neg hb]
    have : LZ z 0 0 P m = 0 := by
      unfold LZ
      refine RS_zero (fun a b _ _ => ?_)
      have : eOr 0 0 1 (wo (Sz z a b) z) m = 0 := by
        unfold eOr
        rw [if_neg (by decide), rI_zero]
      rw [this]
      exact BitVec.mul_zero
    rw [this, bz]
