/-! ===== Int32 by its bits: bt x i ===== -/
def bt (x : Int32) (i : Nat) : Bool := x.toBitVec.getLsbD i
theorem b_ext {x y : Int32} (h : ∀ i, i < 32 → bt x i = bt y i) : x = y := Int32.toBitVec_inj.mp (BitVec.eq_of_getLsbD_eq (fun i hi => h i hi))
theorem b_or (x y : Int32) (i : Nat) : bt (x ||| y) i = (bt x i || bt y i) := by unfold bt; rw [Int32.toBitVec_or, BitVec.getLsbD_or]
theorem b_and (x y : Int32) (i : Nat) : bt (x &&& y) i = (bt x i && bt y i) := by unfold bt; rw [Int32.toBitVec_and, BitVec.getLsbD_and]
theorem b_xor (x y : Int32) (i : Nat) : bt (x ^^^ y) i = (bt x i ^^ bt y i) := by unfold bt; rw [Int32.toBitVec_xor, BitVec.getLsbD_xor]
theorem b_big {x : Int32} {i : Nat} (h : 32 ≤ i) : bt x i = false := BitVec.getLsbD_of_ge _ _ h
theorem b_255 (i : Nat) : bt 255 i = decide (i < 8) := by
  rcases Nat.lt_or_ge i 32 with h | h
  · exact (by decide +kernel : ∀ i, i < 32 → bt 255 i = decide (i < 8)) i h
  · rw [b_big h, decide_eq_false (by omega)]
theorem b_65535 (i : Nat) : bt 65535 i = decide (i < 16) := by
  rcases Nat.lt_or_ge i 32 with h | h
  · exact (by decide +kernel : ∀ i, i < 32 → bt 65535 i = decide (i < 16)) i h
  · rw [b_big h, decide_eq_false (by omega)]
theorem b_m1 : ∀ i, i < 32 → bt (-1) i = true := by decide +kernel
theorem b_0 (i : Nat) : bt 0 i = false := BitVec.getLsbD_zero
theorem s_l : ∀ n, n < 32 → ((nI n &&& 31).toBitVec.smod 32).toNat = n := by decide +kernel
theorem s_u : ∀ n, n < 32 → (((nI n).toUInt32 &&& Int32.toUInt32 31).toBitVec % 32).toNat = n := by decide +kernel
theorem b_shl (n : Nat) (hn : n < 32) (x : Int32) {i : Nat} (hi : i < 32) : bt (x <<< (nI n &&& 31)) i = (decide (n ≤ i) && bt x (i - n)) := by
  unfold bt
  rw [Int32.toBitVec_shiftLeft]
  show (x.toBitVec <<< ((nI n &&& 31).toBitVec.smod 32).toNat).getLsbD i = _
  rw [s_l n hn, BitVec.getLsbD_shiftLeft]
  rcases Nat.lt_or_ge i n with h | h
  · simp [h, Nat.not_le.mpr h]
  · simp [hi, h, Nat.not_lt.mpr h]
theorem b_ushr (n : Nat) (hn : n < 32) (x : Int32) (i : Nat) : bt ((x.toUInt32 >>> ((nI n).toUInt32 &&& Int32.toUInt32 31)).toInt32) i = bt x (n + i) := by
  show (x.toUInt32 >>> ((nI n).toUInt32 &&& Int32.toUInt32 31)).toBitVec.getLsbD i = x.toUInt32.toBitVec.getLsbD (n + i)
  rw [UInt32.toBitVec_shiftRight]
  show (x.toUInt32.toBitVec >>> (((nI n).toUInt32 &&& Int32.toUInt32 31).toBitVec % 32).toNat).getLsbD i = _
  rw [s_u n hn, BitVec.getLsbD_ushiftRight]
theorem b_sshr (n : Nat) (hn : n < 32) (x : Int32) {i : Nat} (hi : i < 32) : bt (x >>> (nI n &&& 31)) i = if n + i < 32 then bt x (n + i) else bt x 31 := by
  unfold bt
  rw [Int32.toBitVec_shiftRight]
  show (x.toBitVec.sshiftRight ((nI n &&& 31).toBitVec.smod 32).toNat).getLsbD i = _
  rw [s_l n hn, BitVec.getLsbD_sshiftRight, BitVec.msb_eq_getLsbD_last]
  simp [hi]
/-! ===== masks ===== -/
theorem b_1 : ∀ i, i < 32 → bt 1 i = decide (i = 0) := by decide +kernel
/-- one bit -/
def sb (i : Nat) : Int32 := (1 : Int32) <<< (nI i &&& 31)
theorem bt_sb {i j : Nat} (hi : i < 32) (hj : j < 32) : bt (sb i) j = decide (i = j) := by
  unfold sb
  rw [b_shl i hi 1 hj]
  by_cases h : i ≤ j
  · rw [b_1 (j - i) (by omega)]
    simp only [h, decide_true, Bool.true_and]
    by_cases e : i = j
    · simp [e]
    · simp [e]; omega
  · simp [h]; omega
theorem bt_not (x : Int32) {i : Nat} (hi : i < 32) : bt (x ^^^ (-1)) i = !bt x i := by
  rw [b_xor, b_m1 i hi]; simp
theorem bt_neg (x : Int32) {i : Nat} (hi : i < 32) : bt (-x) i = (bt x i ^^ decide (∃ j < i, bt x j = true)) := by
  unfold bt
  rw [Int32.toBitVec_neg, BitVec.getLsbD_neg]
  simp [hi]
theorem bt_pred (x : Int32) {i : Nat} (hi : i < 32) : bt (x - 1) i = !(bt x i ^^ decide (∃ j < i, bt x j = true)) := by
  have h : x - 1 = (-x) ^^^ (-1) := by
    apply Int32.toBitVec_inj.mp
    rw [Int32.toBitVec_sub, Int32.toBitVec_xor, Int32.toBitVec_neg]
    show x.toBitVec - 1#32 = (-x.toBitVec) ^^^ (BitVec.allOnes 32)
    rw [BitVec.xor_allOnes, BitVec.not_neg, BitVec.sub_eq_add_neg]
  rw [h, bt_not _ hi, bt_neg _ hi]
/-- no bit from 24 on -/
def lo24 (x : Int32) : Prop := ∀ i, i < 32 → 24 ≤ i → bt x i = false
theorem lo24_sb {i : Nat} (h : i < 24) : lo24 (sb i) := fun j hj h2 => by rw [bt_sb (by omega) hj]; simp; omega
theorem lo24_or {x y : Int32} (hx : lo24 x) (hy : lo24 y) : lo24 (x ||| y) := fun j hj h2 => by rw [b_or, hx j hj h2, hy j hj h2]; rfl
theorem lo24_0 : lo24 0 := fun j _ _ => b_0 j
theorem lo24_and {x : Int32} (hx : lo24 x) (y : Int32) : lo24 (x &&& y) := fun j hj h2 => by rw [b_and, hx j hj h2]; rfl
theorem lo24_and' {y : Int32} (x : Int32) (hx : lo24 y) : lo24 (x &&& y) := fun j hj h2 => by rw [b_and, hx j hj h2]; simp
theorem lo24_xor {x y : Int32} (hx : lo24 x) (hy : lo24 y) : lo24 (x ^^^ y) := fun j hj h2 => by rw [b_xor, hx j hj h2, hy j hj h2]; rfl
/-- the bits of a mask, from the least on -/
def bl (x : Int32) : List Nat := (List.range 24).filter (fun i => bt x i)
theorem mem_bl {x : Int32} {i : Nat} : i ∈ bl x ↔ i < 24 ∧ bt x i = true := by
  unfold bl; rw [List.mem_filter, List.mem_range]
theorem bl_sorted (x : Int32) : (bl x).Pairwise (· < ·) := List.Pairwise.filter _ List.pairwise_lt_range
theorem bl_inj {x y : Int32} (hx : lo24 x) (hy : lo24 y) (h : bl x = bl y) : x = y := by
  apply b_ext
  intro i hi
  by_cases h24 : i < 24
  · have h1 : i ∈ bl x ↔ i ∈ bl y := by rw [h]
    rw [mem_bl, mem_bl] at h1
    cases hbx : bt x i <;> cases hby : bt y i <;> simp_all
  · rw [hx i hi (by omega), hy i hi (by omega)]
/-- all masks of at most three bits, in the class's order -/
def ALLC : List Int32 := [0] ++ ((List.range 24).map sb ++ ((List.range 24).flatMap (fun j => (List.range j).map (fun i => sb i ||| sb j)) ++ (List.range 24).flatMap (fun k => (List.range k).flatMap (fun j => (List.range j).map (fun i => sb i ||| sb j ||| sb k)))))
theorem all_0 : (0 : Int32) ∈ ALLC := List.mem_append_left _ (List.mem_singleton.mpr rfl)
theorem all_1 {i : Nat} (h : i < 24) : sb i ∈ ALLC := List.mem_append_right _ (List.mem_append_left _ (List.mem_map.mpr ⟨i, List.mem_range.mpr h, rfl⟩))
theorem all_2 {i j : Nat} (h : i < j) (h2 : j < 24) : sb i ||| sb j ∈ ALLC := List.mem_append_right _ (List.mem_append_right _ (List.mem_append_left _ (List.mem_flatMap.mpr ⟨j, List.mem_range.mpr h2, List.mem_map.mpr ⟨i, List.mem_range.mpr h, rfl⟩⟩)))
theorem all_3 {i j k : Nat} (h : i < j) (h2 : j < k) (h3 : k < 24) : sb i ||| sb j ||| sb k ∈ ALLC := List.mem_append_right _ (List.mem_append_right _ (List.mem_append_right _ (List.mem_flatMap.mpr ⟨k, List.mem_range.mpr h3, List.mem_flatMap.mpr ⟨j, List.mem_range.mpr h2, List.mem_map.mpr ⟨i, List.mem_range.mpr h, rfl⟩⟩⟩)))
theorem or_bl {x : Int32} (hx : lo24 x) {l : List Nat} {y : Int32} (hy : lo24 y) (hl : bl x = l) (h : ∀ i, i < 24 → (bt y i = true ↔ i ∈ l)) : x = y := by
  apply b_ext
  intro i hi
  by_cases h24 : i < 24
  · have h1 := h i h24
    rw [← hl, mem_bl] at h1
    cases hbx : bt x i <;> cases hby : bt y i <;> simp_all
  · rw [hx i hi (by omega), hy i hi (by omega)]
/-- few bits: it is one of those masks -/
theorem all_of_few {x : Int32} (hx : lo24 x) (h : (bl x).length ≤ 3) : x ∈ ALLC := by
  have hs := bl_sorted x
  have hm : ∀ i ∈ bl x, i < 24 := fun i hi => (mem_bl.mp hi).1
  match hl : bl x with
  | [] =>
    rw [or_bl hx lo24_0 hl (fun i hi => by rw [b_0]; simp)]
    exact all_0
  | [a] =>
    have ha : a < 24 := hm a (by rw [hl]; simp)
    rw [or_bl hx (lo24_sb ha) hl (fun i hi => by rw [bt_sb (by omega) (by omega)]; simp; omega)]
    exact all_1 ha
  | [a, b] =>
    have ha : a < 24 := hm a (by rw [hl]; simp)
    have hb : b < 24 := hm b (by rw [hl]; simp)
    have hab : a < b := by rw [hl] at hs; simpa using hs
    rw [or_bl hx (lo24_or (lo24_sb ha) (lo24_sb hb)) hl (fun i hi => by rw [b_or, bt_sb (by omega) (by omega), bt_sb (by omega) (by omega)]; simp; omega)]
    exact all_2 hab hb
  | [a, b, c] =>
    have ha : a < 24 := hm a (by rw [hl]; simp)
    have hb : b < 24 := hm b (by rw [hl]; simp)
    have hc : c < 24 := hm c (by rw [hl]; simp)
    rw [hl] at hs
    have h1 : a < b := by simp at hs; omega
    have h2 : b < c := by simp at hs; omega
    rw [or_bl hx (lo24_or (lo24_or (lo24_sb ha) (lo24_sb hb)) (lo24_sb hc)) hl (fun i hi => by rw [b_or, b_or, bt_sb (by omega) (by omega), bt_sb (by omega) (by omega), bt_sb (by omega) (by omega)]; simp; omega)]
    exact all_3 h1 h2 hc
  | a :: b :: c :: d :: r => rw [hl] at h; simp at h
/-- many bits: four of them, in order -/
theorem four_of_many {x : Int32} (h : ¬ (bl x).length ≤ 3) : ∃ a b c d, a < b ∧ b < c ∧ c < d ∧ d < 24 ∧ bt x a = true ∧ bt x b = true ∧ bt x c = true ∧ bt x d = true := by
  have hs := bl_sorted x
  have hm : ∀ i ∈ bl x, i < 24 ∧ bt x i = true := fun i hi => mem_bl.mp hi
  match hl : bl x with
  | [] => rw [hl] at h; simp at h
  | [a] => rw [hl] at h; simp at h
  | [a, b] => rw [hl] at h; simp at h
  | [a, b, c] => rw [hl] at h; simp at h
  | a :: b :: c :: d :: r =>
    rw [hl] at hs
    have ha := hm a (by rw [hl]; simp)
    have hb := hm b (by rw [hl]; simp)
    have hc := hm c (by rw [hl]; simp)
    have hd := hm d (by rw [hl]; simp)
    simp only [List.pairwise_cons, List.mem_cons, forall_eq_or_imp] at hs
    exact ⟨a, b, c, d, hs.1.1, hs.2.1.1, hs.2.2.1.1, hd.1, ha.2, hb.2, hc.2, hd.2⟩
