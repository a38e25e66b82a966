/-! Integer.bitCount counts bits -/
/-- the bits below n, counted -/
def cb (x : Int32) : Nat → Nat
  | 0 => 0
  | n + 1 => cb x n + if bt x n then 1 else 0
theorem cb_len (x : Int32) : ∀ n, ((List.range n).filter (fun i => bt x i)).length = cb x n
  | 0 => rfl
  | n + 1 => by
    rw [List.range_succ, List.filter_append, List.length_append, cb_len x n]
    unfold cb
    cases h : bt x n <;> simp [h]
theorem land_split (k : Nat) {a c : Nat} (ha : a < 2 ^ k) (hc : c < 2 ^ k) (b d : Nat) : (a + 2 ^ k * b) &&& (c + 2 ^ k * d) = (a &&& c) + 2 ^ k * (b &&& d) := by
  apply Nat.eq_of_testBit_eq
  intro i
  rw [Nat.add_comm a, Nat.add_comm c, Nat.add_comm (a &&& c), Nat.testBit_and, Nat.testBit_two_pow_mul_add _ ha, Nat.testBit_two_pow_mul_add _ hc, Nat.testBit_two_pow_mul_add _ (Nat.lt_of_le_of_lt Nat.and_le_left ha)]
  split <;> simp
/-- four bytes -/
def N4 (a b c d : Nat) : Nat := a + 2 ^ 8 * (b + 2 ^ 8 * (c + 2 ^ 8 * d))
theorem land4 {a b c d : Nat} (ha : a < 256) (hb : b < 256) (hc : c < 256) (m : Nat) (hm : m < 256) : N4 a b c d &&& N4 m m m m = N4 (a &&& m) (b &&& m) (c &&& m) (d &&& m) := by
  unfold N4
  rw [land_split 8 ha hm, land_split 8 hb hm, land_split 8 hc hm]
theorem half_low : ∀ r, r < 256 → ∀ e, e < 2 → (r / 2 + 128 * e) &&& 85 = (r / 2) &&& 85 := by decide +kernel
theorem quart_low : ∀ r, r < 256 → ∀ e, e < 4 → (r / 4 + 64 * e) &&& 51 = (r / 4) &&& 51 := by decide +kernel
def t1 (r : Nat) : Nat := r - ((r / 2) &&& 85)
def t2 (r : Nat) : Nat := (r &&& 51) + ((r / 4) &&& 51)
def t3 (r : Nat) : Nat := (r + r / 16) % 16
theorem t1_le : ∀ r, r < 256 → ((r / 2) &&& 85) ≤ r ∧ t1 r < 256 := by decide +kernel
theorem t2_le : ∀ r, r < 256 → t2 (t1 r) < 256 ∧ t2 (t1 r) / 16 ≤ 4 ∧ t2 (t1 r) % 16 ≤ 4 ∧ (t1 r &&& 51) < 256 ∧ ((t1 r / 4) &&& 51) < 256 := by decide +kernel
def bitN (b i : Nat) : Nat := b / 2 ^ i % 2
theorem t3_eq : ∀ r, r < 256 → t3 (t2 (t1 r)) = bitN r 0 + bitN r 1 + bitN r 2 + bitN r 3 + bitN r 4 + bitN r 5 + bitN r 6 + bitN r 7 := by decide +kernel
theorem st1 {a b c d : Nat} (ha : a < 256) (hb : b < 256) (hc : c < 256) (hd : d < 256) : N4 a b c d - ((N4 a b c d / 2) &&& N4 85 85 85 85) = N4 (t1 a) (t1 b) (t1 c) (t1 d) := by
  have e : N4 a b c d / 2 = N4 (a / 2 + 128 * (b % 2)) (b / 2 + 128 * (c % 2)) (c / 2 + 128 * (d % 2)) (d / 2) := by
    unfold N4
    omega
  rw [e, land4 (by omega) (by omega) (by omega) 85 (by omega), half_low a ha (b % 2) (by omega), half_low b hb (c % 2) (by omega), half_low c hc (d % 2) (by omega)]
  have h1 := (t1_le a ha).1
  have h2 := (t1_le b hb).1
  have h3 := (t1_le c hc).1
  have h4 := (t1_le d hd).1
  unfold t1 N4
  omega
theorem st2 {a b c d : Nat} (ha : a < 256) (hb : b < 256) (hc : c < 256) : (N4 a b c d &&& N4 51 51 51 51) + ((N4 a b c d / 4) &&& N4 51 51 51 51) = N4 (t2 a) (t2 b) (t2 c) (t2 d) := by
  have e : N4 a b c d / 4 = N4 (a / 4 + 64 * (b % 4)) (b / 4 + 64 * (c % 4)) (c / 4 + 64 * (d % 4)) (d / 4) := by
    unfold N4
    omega
  rw [e, land4 ha hb hc 51 (by omega), land4 (by omega) (by omega) (by omega) 51 (by omega), quart_low a ha (b % 4) (by omega), quart_low b hb (c % 4) (by omega), quart_low c hc (d % 4) (by omega)]
  unfold t2 N4
  omega
theorem and15 (x : Nat) : x &&& 15 = x % 16 := Nat.and_two_pow_sub_one_eq_mod x 4
theorem st3 {a b c d : Nat} (ha : a < 256 ∧ a / 16 ≤ 4 ∧ a % 16 ≤ 4) (hb : b < 256 ∧ b / 16 ≤ 4 ∧ b % 16 ≤ 4) (hc : c < 256 ∧ c / 16 ≤ 4 ∧ c % 16 ≤ 4) (hd : d < 256 ∧ d / 16 ≤ 4 ∧ d % 16 ≤ 4) : (N4 a b c d + N4 a b c d / 16) &&& N4 15 15 15 15 = N4 (t3 a) (t3 b) (t3 c) (t3 d) := by
  have e : N4 a b c d + N4 a b c d / 16 = N4 (a + a / 16 + 16 * (b % 16)) (b + b / 16 + 16 * (c % 16)) (c + c / 16 + 16 * (d % 16)) (d + d / 16) := by
    unfold N4
    omega
  rw [e, land4 (by omega) (by omega) (by omega) 15 (by omega), and15, and15, and15, and15]
  unfold t3
  have e1 : (a + a / 16 + 16 * (b % 16)) % 16 = (a + a / 16) % 16 := by omega
  have e2 : (b + b / 16 + 16 * (c % 16)) % 16 = (b + b / 16) % 16 := by omega
  have e3 : (c + c / 16 + 16 * (d % 16)) % 16 = (c + c / 16) % 16 := by omega
  rw [e1, e2, e3]
theorem st4 {a b c d : Nat} (ha : a ≤ 8) (hb : b ≤ 8) (hc : c ≤ 8) (hd : d ≤ 8) : (N4 a b c d + N4 a b c d / 256 + (N4 a b c d + N4 a b c d / 256) / 65536) % 64 = a + b + c + d := by
  unfold N4
  omega
/-- numbers under Int32's operations -/
theorem of32 (x : Int32) : x = nI x.toBitVec.toNat := by
  apply Int32.toBitVec_inj.mp
  show x.toBitVec = BitVec.ofNat 32 x.toBitVec.toNat
  simp
theorem nI_and (a b : Nat) : nI a &&& nI b = nI (a &&& b) := by
  apply Int32.toBitVec_inj.1
  show BitVec.ofNat 32 a &&& BitVec.ofNat 32 b = BitVec.ofNat 32 (a &&& b)
  apply BitVec.eq_of_getLsbD_eq
  intro i hi
  simp [hi]
theorem nI_sub {a b : Nat} (h : b ≤ a) : nI a - nI b = nI (a - b) := pk_sub h
theorem nI_ushr {n k : Nat} (hn : n < 2 ^ 32) (hk : k < 32) : zushr (nI n) (nI k) = nI (n / 2 ^ k) := pk_ushrN hn (nI k) k (s_u k hk)
theorem nI_bits {n i : Nat} (hi : i < 32) : bt (nI n) i = decide (n / 2 ^ i % 2 = 1) := by
  show (BitVec.ofNat 32 n).getLsbD i = _
  rw [BitVec.getLsbD_ofNat]
  simp [hi, Nat.testBit_eq_decide_div_mod_eq]
theorem bitc (n i : Nat) (hi : i < 32) : (if bt (nI n) i = true then 1 else 0) = n / 2 ^ i % 2 := by
  rw [nI_bits hi]
  have : n / 2 ^ i % 2 < 2 := Nat.mod_lt _ (by decide)
  by_cases h : n / 2 ^ i % 2 = 1
  · simp [h]
  · simp [h]; omega
theorem popc (x : Int32) : f_Jint_bitCount x = nI (cb x 32) := by
  have hx := of32 x
  generalize hn : x.toBitVec.toNat = n at hx
  have hlt : n < 2 ^ 32 := by rw [← hn]; exact x.toBitVec.isLt
  subst hx
  obtain ⟨a, b, c, d, ha, hb, hc, hd, e⟩ : ∃ a b c d, a < 256 ∧ b < 256 ∧ c < 256 ∧ d < 256 ∧ n = N4 a b c d := ⟨n % 256, n / 256 % 256, n / 65536 % 256, n / 16777216, by omega, by omega, by omega, by omega, by unfold N4; omega⟩
  have A := t2_le a ha
  have B := t2_le b hb
  have Cc := t2_le c hc
  have Dd := t2_le d hd
  have A1 := t1_le a ha
  have B1 := t1_le b hb
  have C1 := t1_le c hc
  have D1 := t1_le d hd
  unfold f_Jint_bitCount
  simp only [zlet]
  have l55 : (1431655765 : Int32) = nI (N4 85 85 85 85) := by decide
  have l33 : (858993459 : Int32) = nI (N4 51 51 51 51) := by decide
  have l0f : (252645135 : Int32) = nI (N4 15 15 15 15) := by decide
  have h1 : zushr (nI n) 1 = nI (n / 2) := nI_ushr hlt (k := 1) (by omega)
  have hle : (n / 2 &&& N4 85 85 85 85) ≤ n := Nat.le_trans Nat.and_le_left (by omega)
  have bnd : ∀ p q r s, p < 256 → q < 256 → r < 256 → s < 256 → N4 p q r s < 2 ^ 32 := by intro p q r s _ _ _ _; unfold N4; omega
  have e1 : nI n - (zushr (nI n) 1 &&& 1431655765) = nI (N4 (t1 a) (t1 b) (t1 c) (t1 d)) := by
    rw [h1, l55, nI_and, nI_sub hle, e, st1 ha hb hc hd]
  rw [e1]
  have b1 := bnd (t1 a) (t1 b) (t1 c) (t1 d) A1.2 B1.2 C1.2 D1.2
  have h2 : zushr (nI (N4 (t1 a) (t1 b) (t1 c) (t1 d))) 2 = nI (N4 (t1 a) (t1 b) (t1 c) (t1 d) / 4) := nI_ushr b1 (k := 2) (by omega)
  have e2 : (nI (N4 (t1 a) (t1 b) (t1 c) (t1 d)) &&& 858993459) + (zushr (nI (N4 (t1 a) (t1 b) (t1 c) (t1 d))) 2 &&& 858993459) = nI (N4 (t2 (t1 a)) (t2 (t1 b)) (t2 (t1 c)) (t2 (t1 d))) := by
    rw [h2, l33, nI_and, nI_and, nI_add, st2 A1.2 B1.2 C1.2]
  rw [e2]
  have b2 := bnd _ _ _ _ A.1 B.1 Cc.1 Dd.1
  have h3 : zushr (nI (N4 (t2 (t1 a)) (t2 (t1 b)) (t2 (t1 c)) (t2 (t1 d)))) 4 = nI (N4 (t2 (t1 a)) (t2 (t1 b)) (t2 (t1 c)) (t2 (t1 d)) / 16) := nI_ushr b2 (k := 4) (by omega)
  have e3 : (nI (N4 (t2 (t1 a)) (t2 (t1 b)) (t2 (t1 c)) (t2 (t1 d))) + zushr (nI (N4 (t2 (t1 a)) (t2 (t1 b)) (t2 (t1 c)) (t2 (t1 d)))) 4) &&& 252645135 = nI (N4 (t3 (t2 (t1 a))) (t3 (t2 (t1 b))) (t3 (t2 (t1 c))) (t3 (t2 (t1 d)))) := by
    rw [h3, l0f, nI_add, nI_and, st3 ⟨A.1, A.2.1, A.2.2.1⟩ ⟨B.1, B.2.1, B.2.2.1⟩ ⟨Cc.1, Cc.2.1, Cc.2.2.1⟩ ⟨Dd.1, Dd.2.1, Dd.2.2.1⟩]
  rw [e3]
  have ta := t3_eq a ha
  have tb := t3_eq b hb
  have tc := t3_eq c hc
  have td := t3_eq d hd
  have bz2 : ∀ r i, bitN r i ≤ 1 := fun r i => by unfold bitN; omega
  have la : t3 (t2 (t1 a)) ≤ 8 := by rw [ta]; have := bz2 a 0; have := bz2 a 1; have := bz2 a 2; have := bz2 a 3; have := bz2 a 4; have := bz2 a 5; have := bz2 a 6; have := bz2 a 7; omega
  have lb : t3 (t2 (t1 b)) ≤ 8 := by rw [tb]; have := bz2 b 0; have := bz2 b 1; have := bz2 b 2; have := bz2 b 3; have := bz2 b 4; have := bz2 b 5; have := bz2 b 6; have := bz2 b 7; omega
  have lc : t3 (t2 (t1 c)) ≤ 8 := by rw [tc]; have := bz2 c 0; have := bz2 c 1; have := bz2 c 2; have := bz2 c 3; have := bz2 c 4; have := bz2 c 5; have := bz2 c 6; have := bz2 c 7; omega
  have ld : t3 (t2 (t1 d)) ≤ 8 := by rw [td]; have := bz2 d 0; have := bz2 d 1; have := bz2 d 2; have := bz2 d 3; have := bz2 d 4; have := bz2 d 5; have := bz2 d 6; have := bz2 d 7; omega
  generalize hq : N4 (t3 (t2 (t1 a))) (t3 (t2 (t1 b))) (t3 (t2 (t1 c))) (t3 (t2 (t1 d))) = q
  have hq32 : q < 2 ^ 31 := by rw [← hq]; unfold N4; omega
  have h4 : zushr (nI q) 8 = nI (q / 256) := nI_ushr (by omega) (k := 8) (by omega)
  rw [h4, nI_add]
  have h5 : zushr (nI (q + q / 256)) 16 = nI ((q + q / 256) / 65536) := nI_ushr (by omega) (k := 16) (by omega)
  rw [h5, nI_add]
  have h6 : nI (q + q / 256 + (q + q / 256) / 65536) &&& 63 = nI ((q + q / 256 + (q + q / 256) / 65536) % 64) := pk_andN (by omega) 6 (by decide)
  rw [h6, ← hq, st4 la lb lc ld, ta, tb, tc, td]
  congr 1
  have bb : ∀ i, i < 32 → (if bt (nI n) i = true then 1 else 0) = N4 a b c d / 2 ^ i % 2 := fun i hi => by rw [bitc n i hi, e]
  simp only [cb]
  rw [bb 0 (by omega), bb 1 (by omega), bb 2 (by omega), bb 3 (by omega), bb 4 (by omega), bb 5 (by omega), bb 6 (by omega), bb 7 (by omega), bb 8 (by omega), bb 9 (by omega), bb 10 (by omega), bb 11 (by omega), bb 12 (by omega), bb 13 (by omega), bb 14 (by omega), bb 15 (by omega), bb 16 (by omega), bb 17 (by omega), bb 18 (by omega), bb 19 (by omega), bb 20 (by omega), bb 21 (by omega), bb 22 (by omega), bb 23 (by omega), bb 24 (by omega), bb 25 (by omega), bb 26 (by omega), bb 27 (by omega), bb 28 (by omega), bb 29 (by omega), bb 30 (by omega), bb 31 (by omega)]
  have f0 : ∀ i, i < 8 → N4 a b c d / 2 ^ i % 2 = bitN a i ∧ N4 a b c d / 2 ^ (8 + i) % 2 = bitN b i ∧ N4 a b c d / 2 ^ (16 + i) % 2 = bitN c i ∧ N4 a b c d / 2 ^ (24 + i) % 2 = bitN d i := by
    intro i hi
    unfold bitN N4
    have : i = 0 ∨ i = 1 ∨ i = 2 ∨ i = 3 ∨ i = 4 ∨ i = 5 ∨ i = 6 ∨ i = 7 := by omega
    rcases this with rfl | rfl | rfl | rfl | rfl | rfl | rfl | rfl <;> (refine ⟨?_, ?_, ?_, ?_⟩ <;> omega)
  have g0 := f0 0 (by omega)
  have g1 := f0 1 (by omega)
  have g2 := f0 2 (by omega)
  have g3 := f0 3 (by omega)
  have g4 := f0 4 (by omega)
  have g5 := f0 5 (by omega)
  have g6 := f0 6 (by omega)
  have g7 := f0 7 (by omega)
  simp only [Nat.reduceAdd] at g0 g1 g2 g3 g4 g5 g6 g7
  rw [g0.1, g1.1, g2.1, g3.1, g4.1, g5.1, g6.1, g7.1, g0.2.1, g1.2.1, g2.2.1, g3.2.1, g4.2.1, g5.2.1, g6.2.1, g7.2.1, g0.2.2.1, g1.2.2.1, g2.2.2.1, g3.2.2.1, g4.2.2.1, g5.2.2.1, g6.2.2.1, g7.2.2.1, g0.2.2.2, g1.2.2.2, g2.2.2.2, g3.2.2.2, g4.2.2.2, g5.2.2.2, g6.2.2.2, g7.2.2.2]
  omega
theorem cb_hi {x : Int32} {n : Nat} (h : ∀ k, n ≤ k → k < 32 → bt x k = false) : ∀ m, n ≤ m → m ≤ 32 → cb x m = cb x n
  | 0, h1, _ => by
    have : n = 0 := by omega
    subst this
    rfl
  | m + 1, h1, h2 => by
    by_cases e : n = m + 1
    · rw [e]
    · unfold cb
      rw [cb_hi h m (by omega) (by omega), h m (by omega) (by omega)]
      rfl
theorem popc24 {x : Int32} (hx : lo24 x) : f_Jint_bitCount x = nI (bl x).length := by
  rw [popc, cb_hi (n := 24) (fun k h1 h2 => hx k h2 h1) 32 (by omega) (by omega)]
  unfold bl
  rw [cb_len]
