/-! the polynomial: a number modulo 8 for each mask; how the class and the reference hold it -/
def toI (b : BitVec 3) : Int32 := nI b.toNat
def pi3 (n : Int32) : BitVec 3 := n.toBitVec.setWidth 3
theorem toI_lt (b : BitVec 3) : b.toNat < 8 := b.isLt
theorem and7 (x : Int32) : x &&& 7 = nI (x.toBitVec.toNat % 8) := pk_and x 3 (by decide)
theorem toI_add (a : BitVec 3) (n : Int32) : (toI a + n) &&& 7 = toI (a + pi3 n) := by
  rw [and7]
  unfold toI pi3
  congr 1
  rw [Int32.toBitVec_add, BitVec.toNat_add, BitVec.toNat_add, BitVec.toNat_setWidth]
  show ((BitVec.ofNat 32 a.toNat).toNat + n.toBitVec.toNat) % 2 ^ 32 % 8 = _
  have := a.isLt
  rw [BitVec.toNat_ofNat]
  omega
theorem toI_inj {a b : BitVec 3} (h : toI a = toI b) : a = b := by
  have ha := a.isLt
  have hb := b.isLt
  exact BitVec.eq_of_toNat_eq (nI_inj (by omega) (by omega) h)
theorem toI_0 : toI 0 = 0 := by decide
theorem toI_ne {a : BitVec 3} : toI a = 0 ↔ a = 0 := ⟨fun h => toI_inj (h.trans toI_0.symm), fun h => by rw [h, toI_0]⟩
/-- n comes to the number of x -/
def addP (P : Int32 → BitVec 3) (x n : Int32) : Int32 → BitVec 3 := fun m => if m = x then P m + pi3 n else P m
/-- how many of the first numbers are not 0 -/
def cntN (f : Nat → Int32) : Nat → Nat
  | 0 => 0
  | n + 1 => cntN f n + if f n = 0 then 0 else 1
theorem cntN_ge (f : Nat → Int32) (c : Nat) (v : Int32) : ∀ n, n ≤ c → cntN (upd f c v) n = cntN f n
  | 0, _ => rfl
  | n + 1, h => by
    have h1 : upd f c v n = f n := pk_un (by omega)
    unfold cntN
    rw [cntN_ge f c v n (by omega), h1]
theorem cntN_upd (f : Nat → Int32) (c : Nat) (v : Int32) : ∀ n, c < n → cntN (upd f c v) n + (if f c = 0 then 0 else 1) = cntN f n + (if v = 0 then 0 else 1)
  | 0, h => absurd h (Nat.not_lt_zero _)
  | n + 1, h => by
    unfold cntN
    by_cases e : c = n
    · subst e
      rw [cntN_ge f c v c (Nat.le_refl _), pk_us]
      omega
    · have h1 : upd f c v n = f n := pk_un (by omega)
      have h2 := cntN_upd f c v n (by omega)
      rw [h1]
      omega
theorem cntN_le (f : Nat → Int32) : ∀ n, cntN f n ≤ n
  | 0 => Nat.le_refl _
  | n + 1 => by
    unfold cntN
    have := cntN_le f n
    split <;> omega
/-- the class's row holds P, its count of monomials is right -/
def PC (P : Int32 → BitVec 3) (mono : Int32) (num : Nat → Int32) : Prop := (∀ (m : Int32) (c : Nat), ALLC[c]? = some m → num c = toI (P m)) ∧ mono = nI (cntN num 2325)
/-- the reference's row holds P -/
def PR (P : Int32 → BitVec 3) (num : Nat → Int32) : Prop := (∀ (m : Int32) (r : Nat), m ∈ ALLC → r < 15625 → f_Md_placeOf m = some (nI r) → num r = toI (P m)) ∧ ∀ k, k < 15625 → num k ≠ 0 → unR k ∈ ALLC ∧ f_Md_placeOf (unR k) = some (nI k)
theorem PC_ext {P P' : Int32 → BitVec 3} {mono : Int32} {num : Nat → Int32} (h : ∀ m ∈ ALLC, P m = P' m) (hp : PC P mono num) : PC P' mono num :=
  ⟨fun m c hc => by rw [← h m (List.mem_of_getElem? hc)]; exact hp.1 m c hc, hp.2⟩
theorem PR_ext {P P' : Int32 → BitVec 3} {num : Nat → Int32} (h : ∀ m ∈ ALLC, P m = P' m) (hp : PR P num) : PR P' num :=
  ⟨fun m r hm hr hq => by rw [← h m hm]; exact hp.1 m r hm hr hq, hp.2⟩
theorem clampI {c : Nat} (h : c < 2 ^ 31) : (nI c).toNatClampNeg = c := nI_clamp h
theorem in_nI {c N : Nat} (h : c < N) (hN : N < 2 ^ 31) : ¬ (nI c < 0 ∨ N ≤ (nI c).toNatClampNeg) := nI_in h hN
theorem mono_step {K K' a b : Nat} (h : K' + a = K + b) (x : Int32) (hx : nI b - nI a = x) : nI K + x = nI K' := by
  subst hx
  apply Int32.toBitVec_inj.mp
  rw [Int32.toBitVec_add, Int32.toBitVec_sub]
  show BitVec.ofNat 32 K + (BitVec.ofNat 32 b - BitVec.ofNat 32 a) = BitVec.ofNat 32 K'
  have e : BitVec.ofNat 32 K' + BitVec.ofNat 32 a = BitVec.ofNat 32 K + BitVec.ofNat 32 b := by
    rw [← BitVec.ofNat_add, ← BitVec.ofNat_add, h]
  have e2 : BitVec.ofNat 32 K' = BitVec.ofNat 32 K + BitVec.ofNat 32 b - BitVec.ofNat 32 a := by
    rw [← e, BitVec.add_sub_cancel]
  rw [e2, BitVec.sub_eq_add_neg, BitVec.sub_eq_add_neg, BitVec.add_assoc]
theorem addC {P : Int32 → BitVec 3} {mono : Int32} {num : Nat → Int32} (hp : PC P mono num) {x : Int32} (hx : lo24 x) (n : Int32) : ∃ mono' num', f_Po_add x n mono num = some (mono', num') ∧ PC (addP P x n) mono' num' := by
  by_cases hm : x ∈ ALLC
  · obtain ⟨c, hc, h1, h2⟩ := plC_mem hm
    have hb : num c = toI (P x) := hp.1 x c h2
    have hP : ∀ (mono' : Int32), mono' = nI (cntN (upd num c ((num c + n) &&& 7)) 2325) → PC (addP P x n) mono' (upd num c ((num c + n) &&& 7)) := by
      intro mono' hmo
      refine ⟨fun m c' hc' => ?_, hmo⟩
      unfold addP
      by_cases e : c' = c
      · subst e
        have : m = x := Option.some.inj (hc'.symm.trans h2)
        subst this
        rw [pk_us, if_pos rfl, hb, toI_add]
      · have hne : m ≠ x := by
          intro q
          subst q
          have a1 := (plC_at hc').2
          rw [h1] at a1
          exact e (nI_inj (by have := (plC_at hc').1; omega) (by omega) a1.symm)
        rw [pk_un e, if_neg hne]
        exact hp.1 m c' hc'
    have hk := cntN_upd num c ((num c + n) &&& 7) 2325 hc
    unfold f_Po_add
    simp only [zlet]
    rw [h1, if_neg (nI_pos (by omega)), if_pos (show nI c < 2325 from (show nI c < nI 2325 from nI_lt hc (by omega))), if_neg (in_nI hc (by omega)), if_neg (in_nI hc (by omega)), clampI (by omega)]
    rw [hp.2]
    by_cases ha : (num c + n) &&& 7 = 0
    · rw [if_pos ha]
      by_cases hb0 : num c = 0
      · rw [if_pos hb0]
        exact ⟨_, _, rfl, hP _ (mono_step (a := 0) (b := 0) (by rw [if_pos ha, if_pos hb0] at hk; omega) _ (by decide))⟩
      · rw [if_neg hb0]
        exact ⟨_, _, rfl, hP _ (mono_step (a := 1) (b := 0) (by rw [if_pos ha, if_neg hb0] at hk; omega) _ (by decide))⟩
    · rw [if_neg ha]
      by_cases hb0 : num c = 0
      · rw [if_pos hb0]
        exact ⟨_, _, rfl, hP _ (mono_step (a := 0) (b := 1) (by rw [if_neg ha, if_pos hb0] at hk; omega) _ (by decide))⟩
      · rw [if_neg hb0]
        exact ⟨_, _, rfl, hP _ (mono_step (a := 1) (b := 1) (by rw [if_neg ha, if_neg hb0] at hk; omega) _ (by decide))⟩
  · refine ⟨mono, num, ?_, PC_ext (fun m hmm => ?_) hp⟩
    · unfold f_Po_add
      simp only [zlet]
      rw [plC_out hx hm, if_pos (by decide)]
    · unfold addP
      rw [if_neg (show ¬ m = x from fun q => hm (q ▸ hmm))]
theorem numC {P : Int32 → BitVec 3} {mono : Int32} {num : Nat → Int32} (hp : PC P mono num) {x : Int32} (hm : x ∈ ALLC) : f_Po_numberOf x num = some (toI (P x)) := by
  obtain ⟨c, hc, h1, h2⟩ := plC_mem hm
  unfold f_Po_numberOf
  simp only [zlet]
  rw [h1, if_neg (nI_pos (by omega)), if_neg (show ¬ (2325 : Int32) ≤ nI c from (show ¬ nI 2325 ≤ nI c from nI_ge hc (by omega))), if_neg (in_nI hc (by omega)), clampI (by omega), hp.1 x c h2]
theorem addR {P : Int32 → BitVec 3} {num : Nat → Int32} (hp : PR P num) {x : Int32} (hx : lo24 x) (n : Int32) : ∃ num', f_Md_add x n num = some num' ∧ PR (addP P x n) num' := by
  by_cases hm : x ∈ ALLC
  · obtain ⟨c, hc, h1, h2⟩ := plR_mem hm
    have hb : num c = toI (P x) := hp.1 x c hm hc h1
    unfold f_Md_add
    rw [count_eq, h1]
    simp only [zlet, zb1]
    have hlen := few_of_all x hm
    rw [if_pos (show nI (bl x).length ≤ 3 from (show nI (bl x).length ≤ nI 3 from nI_le hlen (by omega))), if_neg (in_nI hc (by omega)), if_neg (in_nI hc (by omega)), clampI (by omega)]
    refine ⟨_, rfl, fun m r hmm hr hq => ?_, fun k hk hne => ?_⟩
    · unfold addP
      by_cases e : r = c
      · subst e
        obtain ⟨c', _, h3, h4⟩ := plR_mem hmm
        have : m = x := by
          rw [hq] at h3
          have := nI_inj (by omega) (by omega) (Option.some.inj h3)
          subst this
          rw [← h4, h2]
        subst this
        rw [pk_us, if_pos rfl, hb, toI_add]
      · have hne : m ≠ x := by
          intro q
          subst q
          rw [h1] at hq
          exact e (nI_inj (by omega) (by omega) (Option.some.inj hq)).symm
        rw [pk_un e, if_neg hne]
        exact hp.1 m r hmm hr hq
    · by_cases e : k = c
      · subst e
        rw [h2]
        exact ⟨hm, h1⟩
      · rw [pk_un e] at hne
        exact hp.2 k hk hne
  · refine ⟨num, ?_, PR_ext (fun m hmm => ?_) hp⟩
    · unfold f_Md_add
      rw [count_eq]
      simp only [zb1]
      rw [if_neg]
      intro q
      exact hm (all_of_few hx ((nI_leI (by have : (bl x).length ≤ 24 := by
                                             unfold bl
                                             exact Nat.le_trans (List.length_filter_le _ _) (by simp)
                                           omega) (by omega)).mp (show nI (bl x).length ≤ nI 3 from q)))
    · unfold addP
      rw [if_neg (show ¬ m = x from fun q => hm (q ▸ hmm))]
theorem numR {P : Int32 → BitVec 3} {num : Nat → Int32} (hp : PR P num) {x : Int32} (hm : x ∈ ALLC) : f_Md_numberOf x num = some (toI (P x)) := by
  obtain ⟨c, hc, h1, h2⟩ := plR_mem hm
  unfold f_Md_numberOf
  rw [h1]
  simp only [zb1]
  rw [if_neg (in_nI hc (by omega)), clampI (by omega), hp.1 x c hm hc h1]
