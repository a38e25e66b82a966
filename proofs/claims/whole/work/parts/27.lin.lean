/-! what is added is linear in the number; sums over the masks with one bit -/
theorem sm_mul (a : BitVec 3) (f : Nat → BitVec 3) : ∀ n, sm (fun i => a * f i) n = a * sm f n
  | 0 => by show (0 : BitVec 3) = a * 0; exact (BitVec.mul_zero).symm
  | n + 1 => by rw [sm_last, sm_last, sm_mul a f n, BitVec.mul_add]
theorem ct_mul (x k n m : Int32) : ct x (k * n) m = pi3 n * ct x k m := by
  unfold ct
  by_cases h : m = x
  · rw [if_pos h, if_pos h, pi3_mul, BitVec.mul_comm]
  · rw [if_neg h, if_neg h]; exact (BitVec.mul_zero).symm
theorem i32_one_mul (n : Int32) : 1 * n = n := by
  apply Int32.toBitVec_inj.mp
  rw [Int32.toBitVec_mul]
  show 1#32 * n.toBitVec = n.toBitVec
  rw [BitVec.one_mul]
theorem i32_neg_mul (n : Int32) : (-1) * n = -n := by
  apply Int32.toBitVec_inj.mp
  rw [Int32.toBitVec_mul]
  show (-1#32) * n.toBitVec = -n.toBitVec
  rw [BitVec.neg_mul, BitVec.one_mul]
theorem ite_mul (a : BitVec 3) (b : Bool) (x : BitVec 3) : (if b = true then a * x else 0) = a * (if b = true then x else 0) := by
  cases b
  · exact (BitVec.mul_zero).symm
  · rfl
theorem rK_mul (x k n fa m : Int32) (j : Nat) : rK x (k * n) fa j m = pi3 n * rK x k fa j m := by
  unfold rK
  rw [← sm_mul]
  refine sm_congr j (fun i _ => ?_)
  rw [← ite_mul]
  have : 4 * (k * n) = (4 * k) * n := by
    apply Int32.toBitVec_inj.mp
    simp only [Int32.toBitVec_mul]
    rw [BitVec.mul_assoc]
  rw [this, ct_mul]
theorem rJ_mul (x k n fa m : Int32) (j : Nat) : rJ x (k * n) fa j m = pi3 n * rJ x k fa j m := by
  unfold rJ
  rw [← sm_mul]
  refine sm_congr j (fun i _ => ?_)
  rw [← ite_mul]
  have : -2 * (k * n) = (-2 * k) * n := by
    apply Int32.toBitVec_inj.mp
    simp only [Int32.toBitVec_mul]
    rw [BitVec.mul_assoc]
  rw [this, ct_mul, rK_mul, BitVec.mul_add]
theorem rI_mul (x k n fa m : Int32) : rI x (k * n) fa m = pi3 n * rI x k fa m := by
  unfold rI
  rw [← sm_mul]
  refine sm_congr 24 (fun i _ => ?_)
  rw [← ite_mul, ct_mul, rJ_mul, BitVec.mul_add]
theorem eOr_mul (x c n fa m : Int32) : eOr x c n fa m = pi3 n * eOr x c 1 fa m := by
  unfold eOr
  by_cases hc : c = 1
  · rw [if_pos hc, if_pos hc, BitVec.mul_add]
    refine add_eq ?_ ?_
    · rw [← ct_mul, i32_one_mul]
    · rw [← rI_mul, i32_neg_mul]
  · rw [if_neg hc, if_neg hc, ← rI_mul, i32_one_mul]
theorem pi3_toI (b : BitVec 3) : pi3 (toI b) = b := by
  unfold pi3 toI
  apply BitVec.eq_of_toNat_eq
  have := b.isLt
  rw [BitVec.toNat_setWidth]
  show (BitVec.ofNat 32 b.toNat).toNat % 2 ^ 3 = b.toNat
  rw [BitVec.toNat_ofNat]
  omega
/-- nothing comes to a mask with a bit that none of the parts has -/
theorem ct_no {x n m : Int32} {z : Nat} (hm : bt m z = true) (hx : bt x z = false) : ct x n m = 0 := by
  unfold ct
  rw [if_neg]
  intro q
  rw [q, hx] at hm
  cases hm
theorem or_no {x y : Int32} {z : Nat} (hx : bt x z = false) (hy : bt y z = false) : bt (x ||| y) z = false := by rw [b_or, hx, hy]; rfl
theorem sb_no {i z : Nat} (hi : i < 24) (hz : z < 24) {x : Int32} (hx : bt x i = true) (hxz : bt x z = false) : bt (sb i) z = false := by
  rw [bt_sb (by omega) (by omega)]
  simp only [decide_eq_false_iff_not]
  intro q
  subst q
  rw [hx] at hxz
  cases hxz
theorem rK_no {x k fa m : Int32} {z : Nat} (hz : z < 24) (hm : bt m z = true) (hx : bt x z = false) (hf : bt fa z = false) {j : Nat} (hj : j ≤ 24) : rK x k fa j m = 0 := by
  unfold rK
  refine sm_zero j (fun i hi => ?_)
  cases hb : bt x i
  · rfl
  · exact ct_no hm (or_no hf (sb_no (by omega) hz hb hx))
theorem rJ_no {x k fa m : Int32} {z : Nat} (hz : z < 24) (hm : bt m z = true) (hx : bt x z = false) (hf : bt fa z = false) {j : Nat} (hj : j ≤ 24) : rJ x k fa j m = 0 := by
  unfold rJ
  refine sm_zero j (fun i hi => ?_)
  cases hb : bt x i
  · rfl
  · have h := or_no hf (sb_no (i := i) (by omega) hz hb hx)
    simp only [if_true]
    rw [ct_no hm h, rK_no hz hm hx h (by omega), bz]
theorem rI_no {x k fa m : Int32} {z : Nat} (hz : z < 24) (hm : bt m z = true) (hx : bt x z = false) (hf : bt fa z = false) : rI x k fa m = 0 := by
  unfold rI
  refine sm_zero 24 (fun i hi => ?_)
  cases hb : bt x i
  · rfl
  · have h := or_no hf (sb_no (i := i) (by omega) hz hb hx)
    simp only [if_true]
    rw [ct_no hm h, rJ_no hz hm hx h (by omega), bz]
theorem eOr_no {x c n fa m : Int32} {z : Nat} (hz : z < 24) (hm : bt m z = true) (hx : bt x z = false) (hf : bt fa z = false) : eOr x c n fa m = 0 := by
  unfold eOr
  rw [ct_no hm hf, rI_no hz hm hx hf, rI_no hz hm hx hf]
  split <;> rfl
/-- the mask of z, a, b -/
def Sz (z a b : Nat) : Int32 := sb z ||| sb a ||| sb b
theorem bt_Sz {z a b k : Nat} (hz : z < 24) (ha : a < 24) (hb : b < 24) (hk : k < 32) : bt (Sz z a b) k = true ↔ k = z ∨ k = a ∨ k = b := by
  unfold Sz
  rw [b_or, b_or, bt_sb (by omega) hk, bt_sb (by omega) hk, bt_sb (by omega) hk]
  simp only [Bool.or_eq_true, decide_eq_true_eq]
  omega
theorem lo24_Sz {z a b : Nat} (hz : z < 24) (ha : a < 24) (hb : b < 24) : lo24 (Sz z a b) := lo24_or (lo24_or (lo24_sb hz) (lo24_sb ha)) (lo24_sb hb)
theorem Sz_all {z a b : Nat} (hz : z < 24) (ha : a < 24) (hb : b < 24) : Sz z a b ∈ ALLC := by
  refine all_of_few (lo24_Sz hz ha hb) ?_
  apply Classical.byContradiction
  intro h
  obtain ⟨p, q, r, s, h1, h2, h3, h4, b1, b2, b3, b4⟩ := four_of_many h
  have c1 := (bt_Sz hz ha hb (by omega)).mp b1
  have c2 := (bt_Sz hz ha hb (by omega)).mp b2
  have c3 := (bt_Sz hz ha hb (by omega)).mp b3
  have c4 := (bt_Sz hz ha hb (by omega)).mp b4
  omega
theorem Sz_eq {z a b a' b' : Nat} (hz : z < 24) (ha : a < 24) (hb : b < 24) (ha' : a' < 24) (hb' : b' < 24) (h : Sz z a b = Sz z a' b') : (a = z ∨ a = a' ∨ a = b') ∧ (b = z ∨ b = a' ∨ b = b') ∧ (a' = z ∨ a' = a ∨ a' = b) ∧ (b' = z ∨ b' = a ∨ b' = b) := by
  refine ⟨?_, ?_, ?_, ?_⟩
  · exact (bt_Sz hz ha' hb' (by omega)).mp (by rw [← h]; exact (bt_Sz hz ha hb (by omega)).mpr (by omega))
  · exact (bt_Sz hz ha' hb' (by omega)).mp (by rw [← h]; exact (bt_Sz hz ha hb (by omega)).mpr (by omega))
  · exact (bt_Sz hz ha hb (by omega)).mp (by rw [h]; exact (bt_Sz hz ha' hb' (by omega)).mpr (by omega))
  · exact (bt_Sz hz ha hb (by omega)).mp (by rw [h]; exact (bt_Sz hz ha' hb' (by omega)).mpr (by omega))
theorem Sz_ext {z a b a' b' : Nat} (hz : z < 24) (ha : a < 24) (hb : b < 24) (ha' : a' < 24) (hb' : b' < 24) (h : ∀ k, (k = z ∨ k = a ∨ k = b) ↔ (k = z ∨ k = a' ∨ k = b')) : Sz z a b = Sz z a' b' := by
  apply b_ext
  intro k hk
  have h1 := bt_Sz hz ha hb hk
  have h2 := bt_Sz hz ha' hb' hk
  have h3 := h k
  cases e1 : bt (Sz z a b) k <;> cases e2 : bt (Sz z a' b') k <;> simp_all
/-- each mask with the bit z once -/
def isR (z b c : Nat) : Bool := if b = z then decide (c = z) else decide (c ≠ z)
/-- the sum over the masks with the bit z -/
def RS (z : Nat) (g : Int32 → BitVec 3) : BitVec 3 := sm (fun b => sm (fun c => if isR z b c = true then g (Sz z b c) else 0) (b + 1)) 24
theorem sm_upd {f f' : Nat → BitVec 3} {j : Nat} {d : BitVec 3} : ∀ n, j < n → (∀ i, i < n → i ≠ j → f' i = f i) → f' j = f j + d → sm f' n = sm f n + d
  | 0, h, _, _ => absurd h (Nat.not_lt_zero _)
  | n + 1, h, h1, h2 => by
    rw [sm_last, sm_last]
    by_cases e : j = n
    · subst e
      rw [sm_congr j (fun i hi => h1 i (by omega) (by omega)), h2, BitVec.add_assoc]
    · rw [sm_upd n (by omega) (fun i hi hn => h1 i (by omega) hn) h2, h1 n (by omega) (fun q => e q.symm), BitVec.add_assoc, BitVec.add_assoc, BitVec.add_comm d]
theorem RS_congr {z : Nat} {g g' : Int32 → BitVec 3} (h : ∀ b c, b < 24 → c ≤ b → g (Sz z b c) = g' (Sz z b c)) : RS z g = RS z g' := by
  unfold RS
  refine sm_congr 24 (fun b hb => sm_congr (b + 1) (fun c hc => ?_))
  rw [h b c hb (by omega)]
/-- the one place of a mask -/
theorem rep_of {z a b : Nat} (hz : z < 24) (ha : a < 24) (hb : b ≤ a) : ∃ p q, p < 24 ∧ q ≤ p ∧ isR z p q = true ∧ Sz z p q = Sz z a b := by
  by_cases e1 : a = z
  · by_cases e2 : b = z
    · exact ⟨z, z, hz, Nat.le_refl _, by simp [isR], by rw [e1, e2]⟩
    · exact ⟨b, b, by omega, Nat.le_refl _, by simp [isR, e2], Sz_ext hz (by omega) (by omega) ha (by omega) (fun k => by omega)⟩
  · by_cases e2 : b = z
    · exact ⟨a, a, ha, Nat.le_refl _, by simp [isR, e1], Sz_ext hz ha ha ha (by omega) (fun k => by omega)⟩
    · exact ⟨a, b, ha, hb, by simp [isR, e1, e2], rfl⟩
theorem rep_one {z p q p' q' : Nat} (hz : z < 24) (hp : p < 24) (hq : q ≤ p) (hi : isR z p q = true) (hp' : p' < 24) (hq' : q' ≤ p') (hi' : isR z p' q' = true) (h : Sz z p q = Sz z p' q') : p = p' ∧ q = q' := by
  have h1 := Sz_eq hz hp (by omega) hp' (by omega) h
  unfold isR at hi hi'
  by_cases e1 : p = z <;> by_cases e2 : p' = z <;> simp [e1, e2] at hi hi' <;> omega
theorem RS_upd {z a b : Nat} (hz : z < 24) (ha : a < 24) (hb : b ≤ a) {g g' : Int32 → BitVec 3} {d : BitVec 3} (h1 : ∀ p q, p < 24 → q ≤ p → Sz z p q ≠ Sz z a b → g' (Sz z p q) = g (Sz z p q)) (h2 : g' (Sz z a b) = g (Sz z a b) + d) : RS z g' = RS z g + d := by
  obtain ⟨p, q, hp, hq, hi, he⟩ := rep_of hz ha hb
  unfold RS
  refine sm_upd (j := p) 24 hp (fun b' hb' hne => sm_congr (b' + 1) (fun c hc => ?_)) ?_
  · cases hr : isR z b' c
    · rfl
    · simp only [if_true]
      refine h1 b' c hb' (by omega) (fun w => ?_)
      exact hne (rep_one hz hb' (by omega) hr hp hq hi (w.trans he.symm)).1
  · refine sm_upd (j := q) (p + 1) (by omega) (fun c hc hne => ?_) ?_
    · cases hr : isR z p c
      · rfl
      · simp only [if_true]
        refine h1 p c hp (by omega) (fun w => ?_)
        exact hne (rep_one hz hp (by omega) hr hp hq hi (w.trans he.symm)).2
    · rw [hi, he]
      exact h2
theorem RS_zero {z : Nat} {g : Int32 → BitVec 3} (h : ∀ b c, b < 24 → c ≤ b → g (Sz z b c) = 0) : RS z g = 0 := by
  unfold RS
  refine sm_zero 24 (fun b hb => sm_zero (b + 1) (fun c hc => ?_))
  rw [h b c hb (by omega)]
  split <;> rfl
/-- a mask of few bits with the bit z is one of those -/
theorem Sz_of {m : Int32} (hm : m ∈ ALLC) {z : Nat} (hz : z < 24) (hlo : lo24 m) (hb : bt m z = true) : ∃ a b, a < 24 ∧ b ≤ a ∧ m = Sz z a b := by
  have hlen := few_of_all m hm
  have hmem : ∀ i, i < 24 → (bt m i = true ↔ i ∈ bl m) := fun i hi => by rw [mem_bl]; simp [hi]
  have hlt : ∀ i ∈ bl m, i < 24 := fun i hi => (mem_bl.mp hi).1
  have hzl : z ∈ bl m := (hmem z hz).mp hb
  have key : ∀ a b, a < 24 → b ≤ a → (∀ k, k ∈ bl m ↔ k = z ∨ k = a ∨ k = b) → m = Sz z a b := by
    intro a b ha hba h
    apply b_ext
    intro k hk
    by_cases h24 : k < 24
    · have h1 := bt_Sz hz ha (show b < 24 by omega) hk
      have h2 := hmem k h24
      have h3 := h k
      cases e1 : bt m k <;> cases e2 : bt (Sz z a b) k <;> simp_all
    · rw [hlo k hk (by omega), lo24_Sz hz ha (by omega) k hk (by omega)]
  match hl : bl m with
  | [] => rw [hl] at hzl; cases hzl
  | [x] =>
    have hx := hlt x (by rw [hl]; simp)
    exact ⟨z, z, hz, Nat.le_refl _, key z z hz (Nat.le_refl _) (fun k => by rw [hl] at hzl ⊢; simp at hzl ⊢; omega)⟩
  | [x, y] =>
    have hx := hlt x (by rw [hl]; simp)
    have hy := hlt y (by rw [hl]; simp)
    rw [hl] at hzl
    simp at hzl
    rcases hzl with e | e
    · exact ⟨y, y, hy, Nat.le_refl _, key y y hy (Nat.le_refl _) (fun k => by rw [hl]; simp; omega)⟩
    · exact ⟨x, x, hx, Nat.le_refl _, key x x hx (Nat.le_refl _) (fun k => by rw [hl]; simp; omega)⟩
  | [x, y, w] =>
    have hs := bl_sorted m
    rw [hl] at hs
    simp at hs
    have hw := hlt w (by rw [hl]; simp)
    rw [hl] at hzl
    simp at hzl
    rcases hzl with e | e | e
    · exact ⟨w, y, hw, by omega, key w y hw (by omega) (fun k => by rw [hl]; simp; omega)⟩
    · exact ⟨w, x, hw, by omega, key w x hw (by omega) (fun k => by rw [hl]; simp; omega)⟩
    · exact ⟨y, x, by omega, by omega, key y x (by omega) (by omega) (fun k => by rw [hl]; simp; omega)⟩
  | x :: y :: w :: v :: r => rw [hl] at hlen; simp at hlen
