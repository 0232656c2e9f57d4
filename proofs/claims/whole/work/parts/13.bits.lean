/-! BITS of longs and ints -/
def tb (s : Int64) (i : Nat) : Bool := s.toBitVec.getLsbD i
def bt (x : Int32) (i : Nat) : Bool := x.toBitVec.getLsbD i
theorem tb_ext {x y : Int64} (h : ∀ i, i < 64 → tb x i = tb y i) : x = y := Int64.toBitVec_inj.mp (BitVec.eq_of_getLsbD_eq (fun i hi => h i hi))
theorem tb_or (x y : Int64) (i : Nat) : tb (x ||| y) i = (tb x i || tb y i) := by unfold tb; rw [Int64.toBitVec_or, BitVec.getLsbD_or]
theorem tb_and (x y : Int64) (i : Nat) : tb (x &&& y) i = (tb x i && tb y i) := by unfold tb; rw [Int64.toBitVec_and, BitVec.getLsbD_and]
theorem tb_big {x : Int64} {i : Nat} (h : 64 ≤ i) : tb x i = false := BitVec.getLsbD_of_ge _ _ h
theorem tb_m1 : ∀ i, i < 64 → tb (-1) i = true := by decide +kernel
theorem tb_0 (i : Nat) : tb 0 i = false := by show (0#64).getLsbD i = false; simp
theorem tb_not {x : Int64} {i : Nat} (hi : i < 64) : tb (x ^^^ (-1)) i = !tb x i := by
  have h1 := tb_m1 i hi
  unfold tb at h1 ⊢
  rw [Int64.toBitVec_xor, BitVec.getLsbD_xor, h1]; simp
theorem cnt_l : ∀ k, k < 64 → ((nI k).toInt64 &&& 63).toBitVec.smod 64 = BitVec.ofNat 64 k := by decide +kernel
theorem cnt_u : ∀ k, k < 64 → ((nI k).toInt64.toUInt64 &&& Int64.toUInt64 63).toNat = k := by decide +kernel
theorem tb_lsh (x : Int64) {k : Nat} (hk : k < 64) {i : Nat} (hi : i < 64) : tb (lsh x (nI k)) i = (decide (k ≤ i) && tb x (i - k)) := by
  unfold tb lsh
  rw [Int64.toBitVec_shiftLeft, cnt_l k hk, BitVec.shiftLeft_eq', BitVec.toNat_ofNat, Nat.mod_eq_of_lt (show k < 2 ^ 64 by omega), BitVec.getLsbD_shiftLeft]
  rcases Nat.lt_or_ge i k with h | h
  · simp [h, Nat.not_le.mpr h]
  · simp [h, hi, Nat.not_lt.mpr h]
theorem lush_bv (x : Int64) {k : Nat} (hk : k < 64) : (lush x (nI k)).toBitVec = x.toBitVec >>> k := by
  apply BitVec.eq_of_toNat_eq
  show (x.toUInt64 >>> ((nI k).toInt64.toUInt64 &&& Int64.toUInt64 63)).toNat = _
  rw [UInt64.toNat_shiftRight, cnt_u k hk, Nat.mod_eq_of_lt hk, BitVec.toNat_ushiftRight]
  rfl
theorem tb_lush (x : Int64) {k : Nat} (hk : k < 64) (i : Nat) : tb (lush x (nI k)) i = tb x (k + i) := by
  unfold tb
  rw [lush_bv x hk, BitVec.getLsbD_ushiftRight]
theorem tb_one : ∀ i, i < 64 → tb 1 i = decide (i = 0) := by decide +kernel
theorem tb_bit {c i : Nat} (hc : c < 64) (hi : i < 64) : tb (lsh 1 (nI c)) i = decide (i = c) := by
  rw [tb_lsh 1 hc hi]
  rcases Nat.lt_trichotomy i c with h | h | h
  · simp [Nat.not_le.mpr h, Nat.ne_of_lt h]
  · subst h; rw [Nat.sub_self, tb_one 0 (by omega)]; simp
  · rw [tb_one _ (by omega)]
    simp [Nat.le_of_lt h, Nat.ne_of_gt h, Nat.sub_ne_zero_of_lt h]
theorem and1_cases (x : Int64) : x &&& 1 = if tb x 0 then 1 else 0 := by
  apply tb_ext
  intro i hi
  rw [tb_and, tb_one i hi]
  by_cases h0 : i = 0
  · subst h0
    cases h : tb x 0
    · simp [tb_0]
    · simp [tb_one 0 (by omega)]
  · cases h : tb x 0
    · simp [tb_0, h0]
    · simp [tb_one i hi, h0]
theorem bit_and1 (x : Int64) {c : Nat} (hc : c < 64) : lush x (nI c) &&& 1 = if tb x c then 1 else 0 := by
  rw [and1_cases, tb_lush x hc, Nat.add_zero]
theorem cmp0 (x y : Int64) : lg_cmp x y = 0 ↔ x = y := by
  unfold lg_cmp
  constructor
  · intro h
    by_cases h1 : y < x
    · simp [h1] at h
    · by_cases h2 : x = y
      · exact h2
      · simp [h1, h2] at h
  · intro h
    subst h
    simp
theorem has7 (x : Int64) {c : Nat} (hc : c < 64) : (lg_cmp (lush x (nI c) &&& 1) 1 = 0) ↔ tb x c = true := by
  rw [cmp0, bit_and1 x hc]
  cases tb x c <;> simp
theorem has6 (x : Int64) {c : Nat} (hc : c < 64) : (lg_cmp (lush x (nI c) &&& 1) 0 = 0) ↔ tb x c = false := by
  rw [cmp0, bit_and1 x hc]
  cases tb x c <;> simp
/-! ints -/
theorem s_l : ∀ n, n < 32 → ((nI n &&& 31).toBitVec.smod 32).toNat = n := by decide +kernel
theorem bt_and (x y : Int32) (i : Nat) : bt (x &&& y) i = (bt x i && bt y i) := by unfold bt; rw [Int32.toBitVec_and, BitVec.getLsbD_and]
theorem bt_ext {x y : Int32} (h : ∀ i, i < 32 → bt x i = bt y i) : x = y := Int32.toBitVec_inj.mp (BitVec.eq_of_getLsbD_eq (fun i hi => h i hi))
theorem bt_sshr (n : Nat) (hn : n < 32) (x : Int32) {i : Nat} (hi : i < 32) : bt (x >>> (nI n &&& 31)) i = if n + i < 32 then bt x (n + i) else bt x 31 := by
  unfold bt
  rw [Int32.toBitVec_shiftRight]
  show (x.toBitVec.sshiftRight ((nI n &&& 31).toBitVec.smod 32).toNat).getLsbD i = _
  rw [s_l n hn, BitVec.getLsbD_sshiftRight, BitVec.msb_eq_getLsbD_last]
  simp [hi]
theorem bt_one : ∀ i, i < 32 → bt 1 i = decide (i = 0) := by decide +kernel
theorem bt_0 (i : Nat) : bt 0 i = false := by show (0#32).getLsbD i = false; simp
theorem iand1 (x : Int32) : x &&& 1 = if bt x 0 then 1 else 0 := by
  apply bt_ext
  intro i hi
  rw [bt_and, bt_one i hi]
  by_cases h0 : i = 0
  · subst h0
    cases h : bt x 0
    · simp [bt_0]
    · simp [bt_one 0 (by omega)]
  · cases h : bt x 0
    · simp [bt_0, h0]
    · simp [bt_one i hi, h0]
theorem ibit (x : Int32) {k : Nat} (hk : k < 32) : (x >>> (nI k &&& 31)) &&& 1 = if bt x k then 1 else 0 := by
  rw [iand1, bt_sshr k hk x (by omega)]
  simp [hk]
theorem tb_i2l (x : Int32) {k : Nat} (hk : k < 32) : tb x.toInt64 k = bt x k := by
  unfold tb bt
  rw [Int32.toBitVec_toInt64, BitVec.getLsbD_signExtend]
  simp [hk]
  omega
