/-! the class's additions are the reference's -/
theorem add_eq {a b c d : BitVec 3} (h1 : a = c) (h2 : b = d) : a + b = c + d := by rw [h1, h2]
theorem pi3_mul (a b : Int32) : pi3 (a * b) = pi3 a * pi3 b := by
  unfold pi3
  apply BitVec.eq_of_toNat_eq
  rw [Int32.toBitVec_mul, BitVec.toNat_setWidth, BitVec.toNat_mul, BitVec.toNat_mul, BitVec.toNat_setWidth, BitVec.toNat_setWidth]
  rw [Nat.mod_mod_of_dvd _ (show 2 ^ 3 ∣ 2 ^ 32 by decide), Nat.mul_mod]
theorem pi3_and (a b : Int32) : pi3 (a &&& b) = pi3 a &&& pi3 b := by
  unfold pi3
  rw [Int32.toBitVec_and, BitVec.setWidth_and]
theorem pi3_bit0 (a : Int32) : (pi3 a).getLsbD 0 = bt a 0 := by
  unfold pi3 bt
  rw [BitVec.getLsbD_setWidth]
  simp
theorem pi3_m2 {sg : Int32} (h : sg &&& 3 = 0) : pi3 (-2 * sg) = 0 := by
  rw [pi3_mul]
  have h1 : pi3 sg &&& pi3 3 = 0 := by rw [← pi3_and, h]; decide
  generalize pi3 sg = b at h1
  revert b
  decide
theorem pi3_4e {sg : Int32} (h : bt sg 0 = false) : pi3 (4 * sg) = 0 := by
  rw [pi3_mul]
  rw [← pi3_bit0] at h
  generalize pi3 sg = b at h
  revert b
  decide
theorem pi3_4o {sg : Int32} (h : bt sg 0 = true) : pi3 (4 * sg) = pi3 4 := by
  rw [pi3_mul]
  rw [← pi3_bit0] at h
  generalize pi3 sg = b at h
  revert b
  decide
theorem bit0_of_and3 {sg : Int32} (h : sg &&& 3 = 0) : bt sg 0 = false := by
  have h1 : bt (sg &&& 3) 0 = false := by rw [h, b_0]
  rw [b_and] at h1
  have h2 : bt 3 0 = true := by decide
  rw [h2] at h1
  simpa using h1
theorem ct_0 {x n m : Int32} (h : pi3 n = 0) : ct x n m = 0 := by
  unfold ct
  rw [h]
  split <;> rfl
theorem ct_c {x n n' m : Int32} (h : pi3 n = pi3 n') : ct x n m = ct x n' m := by
  unfold ct
  rw [h]
/-- the class's value of a wire: the set and the constant -/
def Rv (V s c : Int32) : Prop := (∀ k, k < 24 → bt V k = bt s k) ∧ (bt V 24 = true ↔ c = 1)
theorem rK_e {s sg fa m : Int32} (h : bt sg 0 = false) (j : Nat) : rK s sg fa j m = 0 := by
  unfold rK
  refine sm_zero j (fun k _ => ?_)
  split
  · exact ct_0 (pi3_4e h)
  · rfl
theorem rJ_0 {s sg fa m : Int32} (h : sg &&& 3 = 0) (i : Nat) : rJ s sg fa i m = 0 := by
  unfold rJ
  refine sm_zero i (fun k _ => ?_)
  split
  · rw [ct_0 (pi3_m2 h), rK_e (bit0_of_and3 h), bz]
  · rfl
theorem ePa_rJ {V s c sg fa m : Int32} (hv : Rv V s c) {i : Nat} (hi : i ≤ 24) : ePa V sg fa i m = rJ s sg fa i m := by
  unfold ePa rJ
  refine sm_congr i (fun j hj => ?_)
  rw [hv.1 j (by omega)]
  cases hb : bt s j
  · rfl
  · simp only [if_true]
    refine add_eq rfl ?_
    cases ho : bt sg 0
    · rw [rK_e ho]
      rfl
    · simp only [if_true]
      unfold eTr rK
      refine sm_congr j (fun k hk => ?_)
      rw [hv.1 k (by omega), ct_c (pi3_4o ho)]
theorem eXj_rI {V s c sg fa m : Int32} (hv : Rv V s c) : eXj V sg fa m = rI s sg fa m := by
  unfold eXj rI
  refine sm_congr 24 (fun i hi => ?_)
  rw [hv.1 i hi]
  cases hb : bt s i
  · rfl
  · simp only [if_true]
    refine add_eq rfl ?_
    by_cases h3 : sg &&& 3 = 0
    · rw [if_pos h3, rJ_0 h3]
    · rw [if_neg h3, ePa_rJ hv (by omega)]
theorem eXo_eOr {V s c : Int32} (hv : Rv V s c) (n fa m : Int32) : eXo n V fa m = eOr s c n fa m := by
  unfold eXo eOr
  by_cases hc : c = 1
  · rw [if_pos hc, if_pos (hv.2.mpr hc), eXj_rI hv]
  · rw [if_neg hc, if_neg (fun q => hc (hv.2.mp q)), eXj_rI hv]
theorem or0 (x : Int32) : x ||| 0 = x := by
  apply b_ext; intro i _; rw [b_or, b_0]; simp
theorem zor (x : Int32) : 0 ||| x = x := by
  apply b_ext; intro i _; rw [b_or, b_0]; simp
theorem mk_lt {i : Nat} (h : i < 24) : mk i = sb i := if_pos h
theorem mk_24 : mk 24 = 0 := rfl
theorem sm_last (f : Nat → BitVec 3) (n : Nat) : sm f (n + 1) = sm f n + f n := rfl
theorem e4k_eH {V s c : Int32} (hv : Rv V s c) (fa m : Int32) : e4k V fa m = eH s c fa m := by
  unfold e4k eH
  rw [sm_last, mk_24, or0, BitVec.add_comm]
  refine add_eq ?_ ?_
  · by_cases hc : c = 1
    · rw [if_pos hc, if_pos (hv.2.mpr hc)]
    · rw [if_neg hc, if_neg (fun q => hc (hv.2.mp q))]
  · refine sm_congr 24 (fun k hk => ?_)
    rw [hv.1 k hk, mk_lt hk]
theorem e4j_eW {V s c V2 s2 c2 : Int32} (hv : Rv V s c) (hv2 : Rv V2 s2 c2) (fa m : Int32) : e4j V V2 fa m = eW s c s2 c2 fa m := by
  unfold e4j eW
  rw [sm_last, mk_24, or0, BitVec.add_comm]
  refine add_eq ?_ ?_
  · by_cases hc : c = 1
    · rw [if_pos hc, if_pos (hv.2.mpr hc), e4k_eH hv2]
    · rw [if_neg hc, if_neg (fun q => hc (hv.2.mp q))]
  · refine sm_congr 24 (fun k hk => ?_)
    rw [hv.1 k hk, mk_lt hk, e4k_eH hv2]
theorem e4_eU {V s c V2 s2 c2 V3 s3 c3 : Int32} (hv : Rv V s c) (hv2 : Rv V2 s2 c2) (hv3 : Rv V3 s3 c3) (m : Int32) : e4 V V2 V3 m = eU s c s2 c2 s3 c3 m := by
  unfold e4 eU
  rw [sm_last, mk_24, BitVec.add_comm]
  refine add_eq ?_ ?_
  · by_cases hc : c = 1
    · rw [if_pos hc, if_pos (hv.2.mpr hc), e4j_eW hv2 hv3]
    · rw [if_neg hc, if_neg (fun q => hc (hv.2.mp q))]
  · refine sm_congr 24 (fun k hk => ?_)
    rw [hv.1 k hk, mk_lt hk, e4j_eW hv2 hv3]
theorem bt_one : ∀ i, i < 32 → bt 16777216 i = decide (i = 24) := by decide +kernel
theorem e4k_one (fa m : Int32) : e4k 16777216 fa m = ct fa 4 m := by
  unfold e4k
  rw [sm_last, mk_24, or0, sm_zero 24 (fun k hk => by rw [bt_one k (by omega)]; rw [if_neg]; simp; omega), zb, bt_one 24 (by omega)]
  rfl
theorem e4j_one {V s c : Int32} (hv : Rv V s c) (fa m : Int32) : e4j V 16777216 fa m = eH s c fa m := by
  rw [← e4k_eH hv]
  show sm (fun j => if bt V j then e4k 16777216 (fa ||| mk j) m else 0) 25 = sm (fun k => if bt V k then ct (fa ||| mk k) 4 m else 0) 25
  refine sm_congr 25 (fun k hk => ?_)
  rw [e4k_one]
theorem e4_eW {V s c V2 s2 c2 : Int32} (hv : Rv V s c) (hv2 : Rv V2 s2 c2) (m : Int32) : e4 V V2 16777216 m = eW s c s2 c2 0 m := by
  unfold e4 eW
  rw [sm_last, mk_24, BitVec.add_comm]
  refine add_eq ?_ ?_
  · by_cases hc : c = 1
    · rw [if_pos hc, if_pos (hv.2.mpr hc), e4j_one hv2]
    · rw [if_neg hc, if_neg (fun q => hc (hv.2.mp q))]
  · refine sm_congr 24 (fun k hk => ?_)
    rw [hv.1 k hk, mk_lt hk, e4j_one hv2, zor]
theorem sm_one {f : Nat → BitVec 3} {j : Nat} : ∀ n, j < n → (∀ i, i < n → i ≠ j → f i = 0) → sm f n = f j
  | 0, h, _ => absurd h (Nat.not_lt_zero _)
  | n + 1, h, h2 => by
    rw [sm_last]
    by_cases e : j = n
    · subst e
      rw [sm_zero j (fun i hi => h2 i (by omega) (by omega)), zb]
    · rw [sm_one n (by omega) (fun i hi hn => h2 i (by omega) hn), h2 n (by omega) (fun q => e q.symm), bz]
theorem e4_bit {n : Nat} (hn : n < 24) {V s c : Int32} (hv : Rv V s c) (m : Int32) : e4 (sb n) V 16777216 m = eH s c (sb n) m := by
  unfold e4
  rw [sm_one (j := n) 25 (by omega) (fun i hi hne => by rw [bt_sb (by omega) (by omega), if_neg]; simp; omega), bt_sb (by omega) (by omega), mk_lt hn, e4j_one hv]
  simp
