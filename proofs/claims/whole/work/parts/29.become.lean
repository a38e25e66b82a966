/-! a bit is replaced: the reference -/
theorem zeroR {P : Int32 → BitVec 3} {num : Nat → Int32} (hp : PR P num) {x : Int32} (hm : x ∈ ALLC) {c : Nat} (hc : c < 15625) (h1 : f_Md_placeOf x = some (nI c)) (h2 : unR c = x) : PR (fun m => if m = x then 0 else P m) (upd num c 0) := by
  refine ⟨fun m r hmm hr hq => ?_, fun k hk hne => ?_⟩
  · by_cases e : r = c
    · subst e
      obtain ⟨c', _, h3, h4⟩ := plR_mem hmm
      have : m = x := by
        rw [hq] at h3
        have := nI_inj (by omega) (by omega) (Option.some.inj h3)
        subst this
        rw [← h4, h2]
      subst this
      show upd num r 0 r = toI (if m = m then 0 else P m)
      rw [pk_us, if_pos rfl, toI_0]
    · have hne : m ≠ x := by
        intro q
        subst q
        rw [h1] at hq
        exact e (nI_inj (by omega) (by omega) (Option.some.inj hq)).symm
      show upd num c 0 r = toI (if m = x then 0 else P m)
      rw [pk_un e, if_neg hne]
      exact hp.1 m r hmm hr hq
  · by_cases e : k = c
    · subst e
      rw [h2]
      exact ⟨hm, h1⟩
    · rw [pk_un e] at hne
      exact hp.2 k hk hne
/-- between two steps of dropBit -/
def DI (P0 : Int32 → BitVec 3) (z : Nat) (vis : Nat → Nat → Prop) (P : Int32 → BitVec 3) : Prop := (∀ a b, a < 24 → b ≤ a → vis a b → P (Sz z a b) = 0) ∧ (∀ m, bt m z = false → P m = P0 m)
theorem drop1 {P0 P : Int32 → BitVec 3} {num : Nat → Int32} (hp : PR P num) {z i j : Nat} (hz : z < 24) (hi : i < 24) (hj : j ≤ i) (th : Int32) {vis vis' : Nat → Nat → Prop} (h : DI P0 z vis P) (hv : ∀ a b, vis' a b → vis a b ∨ (a = i ∧ b = j)) :
    ∃ num' P', f_Md_dropBit_l24 (nI z) (nI i) th (nI j) num = some (.inl (nI (j + 1), num')) ∧ PR P' num' ∧ DI P0 z vis' P' := by
  unfold f_Md_dropBit_l24
  rw [if_neg (ltI hj (by omega))]
  have e : ((1 : Int32) <<< (nI z &&& 31)) ||| ((1 : Int32) <<< (nI i &&& 31)) ||| ((1 : Int32) <<< (nI j &&& 31)) = Sz z i j := rfl
  have hS := Sz_all hz hi (show j < 24 by omega)
  obtain ⟨c, hc, h1, h2⟩ := plR_mem hS
  rw [e, h1]
  simp only [zb1, zlet]
  rw [if_neg (in_nI hc (by omega)), clampI (by omega)]
  refine ⟨_, _, by rw [nI_1], zeroR hp hS hc h1 h2, fun a b ha hb hvis => ?_, fun m hm => ?_⟩
  · show (if Sz z a b = Sz z i j then 0 else P (Sz z a b)) = 0
    by_cases e : Sz z a b = Sz z i j
    · rw [if_pos e]
    · rw [if_neg e]
      rcases hv a b hvis with h1 | ⟨rfl, rfl⟩
      · exact h.1 a b ha hb h1
      · exact absurd rfl e
  · show (if m = Sz z i j then 0 else P m) = P0 m
    rw [if_neg]
    · exact h.2 m hm
    · intro q
      rw [q, (bt_Sz hz hi (show j < 24 by omega) (show z < 32 by omega)).mpr (Or.inl rfl)] at hm
      cases hm
theorem drop2 {P0 P : Int32 → BitVec 3} {num : Nat → Int32} (hp : PR P num) {z i : Nat} (hz : z < 24) (hi : i < 24) (th : Int32) (h0 : DI P0 z (fun a _ => a < i) P) :
    ∃ num' P', f_Md_dropBit_l16 (nI z) th (nI i) num = some (.inl (nI (i + 1), num')) ∧ PR P' num' ∧ DI P0 z (fun a _ => a < i + 1) P' := by
  unfold f_Md_dropBit_l16
  rw [if_neg (lt24 hi)]
  obtain ⟨r, h1, P', h2, h3⟩ := zloop_rel (step := fun q : Int32 × (Nat → Int32) => f_Md_dropBit_l24 (nI z) (nI i) th q.1 q.2)
    (I := fun j q => ∃ nu P, q = (nI j, nu) ∧ PR P nu ∧ DI P0 z (fun a b => a < i ∨ (a = i ∧ b < j)) P)
    (K := fun r => ∃ P', PR P' r ∧ DI P0 z (fun a b => a < i ∨ (a = i ∧ b < i + 1)) P') (i + 1) 0 (s0 := (0, num)) (by omega) (by omega)
    ⟨num, P, by rw [nI_0], hp, ⟨fun a b ha hb hv => h0.1 a b ha hb (by omega), h0.2⟩⟩
    (fun j q hj hI => by
      obtain ⟨nu, P, rfl, hp, hr⟩ := hI
      obtain ⟨nu', P', h1, h2, h3⟩ := drop1 (vis' := fun a b => a < i ∨ (a = i ∧ b < j + 1)) hp hz hi (show j ≤ i by omega) th hr (fun a b hab => by omega)
      exact ⟨_, h1, nu', P', rfl, h2, h3⟩)
    (fun q hI => by
      obtain ⟨nu, P, rfl, hp, hr⟩ := hI
      refine ⟨nu, ?_, P, hp, hr⟩
      show f_Md_dropBit_l24 (nI z) (nI i) th (nI (i + 1)) nu = _
      unfold f_Md_dropBit_l24
      rw [if_pos (gtI (by omega) (by omega))])
  have h1 : zloop (fun q => f_Md_dropBit_l24 (nI z) (nI i) th q.1 q.2) zF ((0 : Int32), num) = some r := h1
  rw [h1]
  exact ⟨r, P', by simp only [zb1, zlet, nI_1], h2, ⟨fun a b ha hb hv => h3.1 a b ha hb (by omega), h3.2⟩⟩
theorem dropR {P : Int32 → BitVec 3} {num : Nat → Int32} (hp : PR P num) {z : Nat} (hz : z < 24) (th : Int32) :
    ∃ num', f_Md_dropBit (nI z) th num = some (wo th z, num') ∧ PR (dropP P z) num' := by
  unfold f_Md_dropBit
  simp only [zlet]
  rw [wo_sb]
  obtain ⟨r, h1, P', h2, h3⟩ := zloop_rel (step := fun q : Int32 × (Nat → Int32) => f_Md_dropBit_l16 (nI z) (wo th z) q.1 q.2)
    (I := fun i q => ∃ nu P', q = (nI i, nu) ∧ PR P' nu ∧ DI P z (fun a _ => a < i) P')
    (K := fun r => ∃ P', PR P' r ∧ DI P z (fun a _ => a < 24) P') 24 0 (s0 := (0, num)) (by omega) (by omega)
    ⟨num, P, by rw [nI_0], hp, ⟨fun a b ha hb hv => absurd hv (Nat.not_lt_zero _), fun _ _ => rfl⟩⟩
    (fun i q hi hI => by
      obtain ⟨nu, P', rfl, hp, hr⟩ := hI
      obtain ⟨nu', P2, h1, h2, h3⟩ := drop2 hp hz hi (wo th z) hr
      exact ⟨_, h1, nu', P2, rfl, h2, h3⟩)
    (fun q hI => by
      obtain ⟨nu, P', rfl, hp, hr⟩ := hI
      refine ⟨nu, ?_, P', hp, hr⟩
      show f_Md_dropBit_l16 (nI z) (wo th z) (nI 24) nu = _
      unfold f_Md_dropBit_l16
      rw [if_pos ge24])
  have h1 : zloop (fun q => f_Md_dropBit_l16 (nI z) (wo th z) q.1 q.2) zF ((0 : Int32), num) = some r := h1
  rw [h1]
  refine ⟨r, rfl, PR_ext (fun m hm => ?_) h2⟩
  unfold dropP
  by_cases hb : bt m z = true
  · rw [if_pos hb]
    obtain ⟨a, b, ha, hba, rfl⟩ := Sz_of hm hz (lo24_of_all hm) hb
    exact h3.1 a b ha hba ha
  · rw [if_neg hb]
    exact h3.2 m (by simpa using hb)
/-- the pairs ahead of row b -/
def tr : Nat → Nat
  | 0 => 0
  | n + 1 => tr n + n + 1
theorem tr_lt : ∀ b, b < 24 → tr b + b < 300 := by decide
/-- the part of RS ahead of (b, c) -/
def RSp (z : Nat) (g : Int32 → BitVec 3) (b c : Nat) : BitVec 3 := sm (fun b => sm (fun c => if isR z b c = true then g (Sz z b c) else 0) (b + 1)) b + sm (fun c => if isR z b c = true then g (Sz z b c) else 0) c
theorem RSp_c (z : Nat) (g : Int32 → BitVec 3) (b c : Nat) : RSp z g b (c + 1) = RSp z g b c + (if isR z b c = true then g (Sz z b c) else 0) := by
  unfold RSp
  rw [sm_last, BitVec.add_assoc]
theorem RSp_b (z : Nat) (g : Int32 → BitVec 3) (b : Nat) : RSp z g (b + 1) 0 = RSp z g b (b + 1) := by
  unfold RSp
  rw [sm_last]
  show _ + 0 = _
  rw [bz]
theorem RSp_end (z : Nat) (g : Int32 → BitVec 3) : RSp z g 24 0 = RS z g := by
  unfold RSp RS
  show _ + 0 = _
  rw [bz]
theorem upd_lt {f : Nat → Int32} {k n : Nat} {x : Int32} (h : k < n) : upd f n x k = f k := pk_un (by omega)
/-- what is collected ahead of (b, c) -/
def CI (P : Int32 → BitVec 3) (z : Nat) (s c : Int32) (b cc many : Nat) (oS oN : Nat → Int32) : Prop := many ≤ tr b + cc ∧ (∀ k, k < many → lo24 (oS k) ∧ bt (oS k) z = false) ∧ ∀ m, sm (fun k => eOr s c (oN k) (oS k) m) many = RSp z (fun R => P R * eOr s c 1 (wo R z) m) b cc
theorem CI_skip {P : Int32 → BitVec 3} {z : Nat} {s c : Int32} {b cc many : Nat} {oS oN : Nat → Int32} (h : CI P z s c b cc many oS oN) (hs : isR z b cc = false ∨ P (Sz z b cc) = 0) : CI P z s c b (cc + 1) many oS oN := by
  refine ⟨by have := h.1; omega, h.2.1, fun m => ?_⟩
  rw [RSp_c, h.2.2 m]
  rcases hs with q | q
  · rw [q]
    simp
  · rw [q]
    have : (0 : BitVec 3) * eOr s c 1 (wo (Sz z b cc) z) m = 0 := BitVec.zero_mul
    rw [this]
    simp
theorem CI_take {P : Int32 → BitVec 3} {z : Nat} (hz : z < 24) {s c : Int32} {b cc many : Nat} (hb : b < 24) (hcc : cc ≤ b) {oS oN : Nat → Int32} (h : CI P z s c b cc many oS oN) (hi : isR z b cc = true) : CI P z s c b (cc + 1) (many + 1) (upd oS many (wo (Sz z b cc) z)) (upd oN many (toI (P (Sz z b cc)))) := by
  refine ⟨by have := h.1; omega, fun k hk => ?_, fun m => ?_⟩
  · by_cases e : k = many
    · subst e
      rw [pk_us]
      exact ⟨lo24_wo (lo24_Sz hz hb (by omega)) z, wo_no _ hz⟩
    · rw [pk_un e]
      exact h.2.1 k (by omega)
  · rw [sm_last, RSp_c, ← h.2.2 m, pk_us, pk_us, hi]
    refine add_eq ?_ ?_
    · refine sm_congr many (fun k hk => ?_)
      rw [upd_lt hk, upd_lt hk]
    · rw [eOr_mul, pi3_toI]
      rfl
theorem wo_pair {z b c : Nat} (hz : z < 24) (hb : b < 24) (hc : c < 24) : (sb b ||| sb c) &&& (sb z ^^^ (-1)) = wo (Sz z b c) z := by
  apply b_ext
  intro k hk
  rw [bt_wo _ hz hk, b_and, bt_not _ hk, b_or, bt_sb (by omega) hk, bt_sb (by omega) hk, bt_sb (by omega) hk]
  have h := bt_Sz hz hb hc hk
  cases e : bt (Sz z b c) k
  · have : ¬ (k = z ∨ k = b ∨ k = c) := fun q => by rw [h.mpr q] at e; cases e
    simp
    omega
  · have := h.mp e
    by_cases ez : k = z
    · subst ez; simp
    · have e1 : ¬ z = k := fun q => ez q.symm
      simp [e1, ez]
      omega
theorem wo_back {S : Int32} {z : Nat} (hz : z < 24) (h : bt S z = true) : wo S z ||| sb z = S := by
  apply b_ext
  intro k hk
  rw [b_or, bt_wo _ hz hk, bt_sb (by omega) hk]
  by_cases e : k = z
  · subst e; simp [h]
  · have e1 : ¬ z = k := fun q => e q.symm
    simp [e, e1]
theorem coll1 {P : Int32 → BitVec 3} {num : Nat → Int32} (hp : PR P num) {z b cc many : Nat} (hz : z < 24) (hb : b < 24) (hcc : cc ≤ b) (s c wi th : Int32) (st cs : Nat → Int32) {oS oN : Nat → Int32} (h : CI P z s c b cc many oS oN) :
    ∃ many' oS' oN', f_Md_become_l16 (nI z) s c (nI b) wi th num st cs (nI many) (nI cc) oS oN = some (.inl (nI many', nI (cc + 1), oS', oN')) ∧ CI P z s c b (cc + 1) many' oS' oN' := by
  have hS := Sz_all hz hb (show cc < 24 by omega)
  have hbS : bt (Sz z b cc) z = true := (bt_Sz hz hb (show cc < 24 by omega) (show z < 32 by omega)).mpr (Or.inl rfl)
  have hn := numR hp hS
  have hm := h.1
  have htr := tr_lt b hb
  have hin : ¬ (nI many < 0 ∨ 300 ≤ (nI many).toNatClampNeg) := in_nI (by omega) (by omega)
  unfold f_Md_become_l16
  rw [if_neg (ltI hcc (by omega))]
  simp only [zlet]
  rw [sbe b, sbe cc, sbe z, wo_pair hz hb (by omega), wo_back hz hbS, hn]
  simp only [zb1]
  have eqz : ∀ a, a < 24 → (nI a = nI z ↔ a = z) := fun a ha => nI_eq (by omega) (by omega)
  by_cases e1 : b = z
  · rw [if_pos ((eqz b hb).mpr e1)]
    by_cases e2 : cc = z
    · rw [if_pos ((eqz cc (by omega)).mpr e2)]
      have hi : isR z b cc = true := by simp [isR, e1, e2]
      by_cases h0 : toI (P (Sz z b cc)) = 0
      · rw [if_pos h0]
        exact ⟨many, oS, oN, by rw [nI_1], CI_skip h (Or.inr (toI_ne.mp h0))⟩
      · rw [if_neg h0, if_neg hin, if_neg hin, clampI (by omega)]
        exact ⟨many + 1, _, _, by rw [nI_1, nI_1], CI_take hz hb hcc h hi⟩
    · rw [if_neg (fun q => e2 ((eqz cc (by omega)).mp q))]
      exact ⟨many, oS, oN, by rw [nI_1], CI_skip h (Or.inl (by simp [isR, e1, e2]))⟩
  · rw [if_neg (fun q => e1 ((eqz b hb).mp q))]
    by_cases e2 : cc = z
    · rw [if_pos ((eqz cc (by omega)).mpr e2)]
      exact ⟨many, oS, oN, by rw [nI_1], CI_skip h (Or.inl (by simp [isR, e1, e2]))⟩
    · rw [if_neg (fun q => e2 ((eqz cc (by omega)).mp q))]
      have hi : isR z b cc = true := by simp [isR, e1, e2]
      by_cases h0 : toI (P (Sz z b cc)) = 0
      · rw [if_pos h0]
        exact ⟨many, oS, oN, by rw [nI_1], CI_skip h (Or.inr (toI_ne.mp h0))⟩
      · rw [if_neg h0, if_neg hin, if_neg hin, clampI (by omega)]
        exact ⟨many + 1, _, _, by rw [nI_1, nI_1], CI_take hz hb hcc h hi⟩
theorem coll2 {P : Int32 → BitVec 3} {num : Nat → Int32} (hp : PR P num) {z b many : Nat} (hz : z < 24) (hb : b < 24) (s c wi th : Int32) (st cs : Nat → Int32) {oS oN : Nat → Int32} (h : CI P z s c b 0 many oS oN) :
    ∃ many' oS' oN', f_Md_become_l6 (nI z) s c wi th num st cs (nI many) (nI b) oS oN = some (.inl (nI many', nI (b + 1), oS', oN')) ∧ CI P z s c (b + 1) 0 many' oS' oN' := by
  unfold f_Md_become_l6
  rw [if_neg (lt24 hb)]
  obtain ⟨r, h1, many', oS', oN', h2, h3⟩ := zloop_rel (step := fun q : Int32 × Int32 × (Nat → Int32) × (Nat → Int32) => f_Md_become_l16 (nI z) s c (nI b) wi th num st cs q.1 q.2.1 q.2.2.1 q.2.2.2)
    (I := fun j q => ∃ many oS oN, q = (nI many, nI j, oS, oN) ∧ CI P z s c b j many oS oN)
    (K := fun r => ∃ many' oS' oN', r = (nI many', oS', oN') ∧ CI P z s c (b + 1) 0 many' oS' oN') (b + 1) 0 (s0 := (nI many, 0, oS, oN)) (by omega) (by omega)
    ⟨many, oS, oN, by rw [nI_0], h⟩
    (fun j q hj hI => by
      obtain ⟨many, oS, oN, rfl, hc⟩ := hI
      obtain ⟨many', oS', oN', h1, h2⟩ := coll1 hp hz hb (show j ≤ b by omega) s c wi th st cs hc
      exact ⟨_, h1, many', oS', oN', rfl, h2⟩)
    (fun q hI => by
      obtain ⟨many, oS, oN, rfl, hc⟩ := hI
      refine ⟨(nI many, oS, oN), ?_, many, oS, oN, rfl, ⟨?_, hc.2.1, fun m => by rw [RSp_b]; exact hc.2.2 m⟩⟩
      · show f_Md_become_l16 (nI z) s c (nI b) wi th num st cs (nI many) (nI (b + 1)) oS oN = _
        unfold f_Md_become_l16
        rw [if_pos (gtI (by omega) (by omega))]
      · have := hc.1
        show many ≤ tr b + b + 1 + 0
        omega)
  have h1 : zloop (fun q => f_Md_become_l16 (nI z) s c (nI b) wi th num st cs q.1 q.2.1 q.2.2.1 q.2.2.2) zF (nI many, (0 : Int32), oS, oN) = some r := h1
  rw [h1]
  subst h2
  exact ⟨many', oS', oN', by simp only [zb3, zlet, nI_1], h3⟩
/-- the wires' sets and constants with z replaced, the first n of them -/
def stB (st : Nat → Int32) (z : Nat) (s : Int32) (n : Nat) : Nat → Int32 := fun w => if w < n ∧ bt (st w) z = true then wo (st w) z ^^^ s else st w
def csB (cs st : Nat → Int32) (z : Nat) (c : Int32) (n : Nat) : Nat → Int32 := fun w => if w < n ∧ bt (st w) z = true then cs w ^^^ c else cs w
theorem becomeR {P : Int32 → BitVec 3} {num : Nat → Int32} (hp : PR P num) {z N : Nat} (hz : z < 24) (hN : N ≤ 6) {s : Int32} (hs : bt s z = false) (c th : Int32) (oS oN st cs : Nat → Int32) :
    ∃ num' oS' oN', f_Md_become (nI z) s c (nI N) th num oS oN st cs = some (wo th z, num', oS', oN', stB st z s N, csB cs st z c N) ∧ PR (repP P z s c) num' := by
  unfold f_Md_become
  obtain ⟨r, h1, many, oS', oN', h2, h3⟩ := zloop_rel (step := fun q : Int32 × Int32 × (Nat → Int32) × (Nat → Int32) => f_Md_become_l6 (nI z) s c (nI N) th num st cs q.1 q.2.1 q.2.2.1 q.2.2.2)
    (I := fun b q => ∃ many oS oN, q = (nI many, nI b, oS, oN) ∧ CI P z s c b 0 many oS oN)
    (K := fun r => ∃ many oS oN, r = (nI many, oS, oN) ∧ CI P z s c 24 0 many oS oN) 24 0 (s0 := (0, 0, oS, oN)) (by omega) (by omega)
    ⟨0, oS, oN, by rw [nI_0], ⟨Nat.le_refl _, fun k hk => absurd hk (Nat.not_lt_zero _), fun m => by unfold RSp; rfl⟩⟩
    (fun b q hb hI => by
      obtain ⟨many, oS, oN, rfl, hc⟩ := hI
      obtain ⟨many', oS', oN', h1, h2⟩ := coll2 hp hz hb s c (nI N) th st cs hc
      exact ⟨_, h1, many', oS', oN', rfl, h2⟩)
    (fun q hI => by
      obtain ⟨many, oS, oN, rfl, hc⟩ := hI
      refine ⟨(nI many, oS, oN), ?_, many, oS, oN, rfl, hc⟩
      show f_Md_become_l6 (nI z) s c (nI N) th num st cs (nI many) (nI 24) oS oN = _
      unfold f_Md_become_l6
      rw [if_pos ge24])
  have h1 : zloop (fun q => f_Md_become_l6 (nI z) s c (nI N) th num st cs q.1 q.2.1 q.2.2.1 q.2.2.2) zF ((0 : Int32), (0 : Int32), oS, oN) = some r := h1
  rw [h1]
  subst h2
  have hmany : many ≤ 300 := by have := h3.1; exact Nat.le_trans this (by decide)
  simp only [zb3]
  obtain ⟨nu, d1, d2⟩ := dropR hp hz th
  rw [d1]
  simp only [zb2]
  obtain ⟨nu2, g1, g2⟩ := effR_loop (step := fun q : Int32 × (Nat → Int32) => f_Md_become_l139 (nI z) s c (nI many) (nI N) (wo th z) oS' oN' st cs q.1 q.2) many (by omega) (fun k m => eOr s c (oN' k) (oS' k) m)
    (fun k hk P num hp => by
      show ∃ num', f_Md_become_l139 (nI z) s c (nI many) (nI N) (wo th z) oS' oN' st cs (nI k) num = _ ∧ _
      unfold f_Md_become_l139
      rw [if_neg (nI_ge hk (by omega)), if_neg (in_nI (show k < 300 by omega) (by omega)), if_neg (in_nI (show k < 300 by omega) (by omega)), clampI (by omega)]
      obtain ⟨nu, a1, a2⟩ := orR (h3.2.1 k hk).1 s c (oN' k) P num hp
      rw [a1]
      exact ⟨nu, by simp only [zb1, zlet, nI_1], a2⟩)
    (fun num => by
      show f_Md_become_l139 (nI z) s c (nI many) (nI N) (wo th z) oS' oN' st cs (nI many) num = _
      unfold f_Md_become_l139
      rw [if_pos (nI_le (Nat.le_refl many) (by omega))]) _ nu d2
  have g1 : zloop (fun q => f_Md_become_l139 (nI z) s c (nI many) (nI N) (wo th z) oS' oN' st cs q.1 q.2) zF ((0 : Int32), nu) = some nu2 := g1
  rw [g1]
  simp only [zb1]
  obtain ⟨r3, k1, k2⟩ := zloop_rel (step := fun q : Int32 × (Nat → Int32) × (Nat → Int32) => f_Md_become_l175 (nI z) s c (nI N) (wo th z) nu2 oS' oN' q.1 q.2.1 q.2.2)
    (I := fun w q => q = (nI w, stB st z s w, csB cs st z c w)) (K := fun r => r = (stB st z s N, csB cs st z c N)) N 0 (s0 := (0, st, cs)) (by omega) (by omega)
    (by
      have e1 : stB st z s 0 = st := by funext w; simp [stB]
      have e2 : csB cs st z c 0 = cs := by funext w; simp [csB]
      rw [nI_0, e1, e2])
    (fun w q hw hq => by
      subst hq
      refine ⟨_, ?_, rfl⟩
      show f_Md_become_l175 (nI z) s c (nI N) (wo th z) nu2 oS' oN' (nI w) (stB st z s w) (csB cs st z c w) = _
      unfold f_Md_become_l175
      have ew : stB st z s w w = st w := by unfold stB; rw [if_neg (by omega)]
      have ec : csB cs st z c w w = cs w := by unfold csB; rw [if_neg (by omega)]
      have hin := in_nI (show w < 6 by omega) (show 6 < 2 ^ 31 by omega)
      have hin2 : ¬ (nI w < 0 ∨ 6 ≤ w) := by
        have h := hin
        rw [clampI (by omega)] at h
        exact h
      rw [if_neg (nI_ge hw (by omega)), if_neg hin, clampI (by omega), ew]
      cases hb : bt (st w) z
      · rw [sh_f (by omega) hb, if_pos rfl]
        simp only [zlet]
        rw [nI_1]
        congr 4
        · funext v
          unfold stB
          by_cases e : v = w
          · subst e; simp [hb]
          · have : (v < w ∧ bt (st v) z = true) ↔ (v < w + 1 ∧ bt (st v) z = true) := ⟨fun q => ⟨by omega, q.2⟩, fun q => ⟨by omega, q.2⟩⟩
            simp only [this]
        · funext v
          unfold csB
          by_cases e : v = w
          · subst e; simp [hb]
          · have : (v < w ∧ bt (st v) z = true) ↔ (v < w + 1 ∧ bt (st v) z = true) := ⟨fun q => ⟨by omega, q.2⟩, fun q => ⟨by omega, q.2⟩⟩
            simp only [this]
      · rw [sh_t (by omega) hb, if_neg (by decide), if_neg hin2, if_neg hin2]
        simp only [zlet]
        rw [if_neg hin2, if_neg hin2, wo_sb, ec, nI_1]
        congr 4
        · funext v
          unfold stB upd
          by_cases e : v = w
          · subst e; simp [hb]
          · have : (v < w ∧ bt (st v) z = true) ↔ (v < w + 1 ∧ bt (st v) z = true) := ⟨fun q => ⟨by omega, q.2⟩, fun q => ⟨by omega, q.2⟩⟩
            simp only [this, if_neg e]
        · funext v
          unfold csB upd
          by_cases e : v = w
          · subst e; simp [hb]
          · have : (v < w ∧ bt (st v) z = true) ↔ (v < w + 1 ∧ bt (st v) z = true) := ⟨fun q => ⟨by omega, q.2⟩, fun q => ⟨by omega, q.2⟩⟩
            simp only [this, if_neg e])
    (fun q hq => by
      subst hq
      refine ⟨_, ?_, rfl⟩
      show f_Md_become_l175 (nI z) s c (nI N) (wo th z) nu2 oS' oN' (nI N) _ _ = _
      unfold f_Md_become_l175
      rw [if_pos (nI_le (Nat.le_refl N) (by omega))])
  have k1 : zloop (fun q => f_Md_become_l175 (nI z) s c (nI N) (wo th z) nu2 oS' oN' q.1 q.2.1 q.2.2) zF ((0 : Int32), st, cs) = some r3 := k1
  rw [k1, k2]
  refine ⟨nu2, oS', oN', rfl, PR_ext (fun m hm => ?_) g2⟩
  show dropP P z m + sm (fun k => eOr s c (oN' k) (oS' k) m) many = repP P z s c m
  unfold dropP repP
  by_cases hb : bt m z = true
  · rw [if_pos hb, if_pos hb, sm_zero many (fun k hk => eOr_no hz hb hs (h3.2.1 k hk).2), bz]
  · rw [if_neg hb, if_neg hb, h3.2.2 m, RSp_end]
    rfl
