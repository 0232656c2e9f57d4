/-! Long.bitCount, by bytes -/
def uN (x : Int64) : Nat := x.toBitVec.toNat
theorem uN_lt (x : Int64) : uN x < 2 ^ 64 := x.toBitVec.isLt
theorem uN_and (x y : Int64) : uN (x &&& y) = uN x &&& uN y := by unfold uN; rw [Int64.toBitVec_and, BitVec.toNat_and]
theorem uN_add {x y : Int64} (h : uN x + uN y < 2 ^ 64) : uN (x + y) = uN x + uN y := by
  unfold uN at h ⊢
  rw [Int64.toBitVec_add, BitVec.toNat_add, Nat.mod_eq_of_lt h]
theorem uN_sub {x y : Int64} (h : uN y ≤ uN x) : uN (x - y) = uN x - uN y := by
  have h1 := uN_lt x
  unfold uN at h h1 ⊢
  rw [Int64.toBitVec_sub, BitVec.toNat_sub]
  omega
theorem uN_lush (x : Int64) {k : Nat} (hk : k < 64) : uN (lush x (nI k)) = uN x / 2 ^ k := by
  unfold uN; rw [lush_bv x hk, BitVec.toNat_ushiftRight, Nat.shiftRight_eq_div_pow]
theorem tb_uN (x : Int64) (i : Nat) : tb x i = (uN x).testBit i := by unfold tb uN; rw [BitVec.testBit_toNat]
def rep : Nat → Nat → Nat
  | 0, _ => 0
  | n + 1, c => c + 256 * rep n c
theorem and_byte (A n c : Nat) (hc : c < 256) : A &&& rep (n + 1) c = (A % 256 &&& c) + 256 * (A / 256 &&& rep n c) := by
  have h1 : (A &&& rep (n + 1) c) % 2 ^ 8 = (A % 2 ^ 8) &&& (rep (n + 1) c % 2 ^ 8) := Nat.and_mod_two_pow
  have h2 : (A &&& rep (n + 1) c) / 2 ^ 8 = (A / 2 ^ 8) &&& (rep (n + 1) c / 2 ^ 8) := Nat.and_div_two_pow
  have r1 : rep (n + 1) c % 2 ^ 8 = c := by show (c + 256 * rep n c) % 256 = c; omega
  have r2 : rep (n + 1) c / 2 ^ 8 = rep n c := by show (c + 256 * rep n c) / 256 = _; omega
  rw [r1] at h1
  rw [r2] at h2
  rw [← Nat.mod_add_div (A &&& rep (n + 1) c) (2 ^ 8), h1, h2]
theorem bf1 : ∀ b, b < 256 → ∀ t, t < 2 → (b / 2 + 128 * t) &&& 85 = (b / 2) &&& 85 ∧ ((b / 2) &&& 85) ≤ b := by decide +kernel
theorem bf2 : ∀ b, b < 256 → ∀ t, t < 4 → (b / 4 + 64 * t) &&& 51 = (b / 4) &&& 51 := by decide +kernel
def p1 (b : Nat) : Nat := b - ((b / 2) &&& 85)
def p2 (b : Nat) : Nat := (b &&& 51) + ((b / 4) &&& 51)
def nib (b : Nat) : Prop := b % 16 ≤ 4 ∧ b / 16 ≤ 4
theorem bf3 : ∀ b, b < 5 → ∀ c, c < 5 → ∀ d, d < 5 → (16 * b + c + b + 16 * d) &&& 15 = b + c := by decide +kernel
def pc8 (b : Nat) : Nat := cnt (fun i => b.testBit i) 8
theorem bf4 : ∀ b, b < 256 → (p2 (p1 b)) % 16 ≤ 4 ∧ (p2 (p1 b)) / 16 ≤ 4 ∧ p1 b < 256 ∧ p2 (p1 b) < 256 ∧ (p2 (p1 b)) / 16 + (p2 (p1 b)) % 16 = pc8 b := by decide +kernel
def P1 (n X : Nat) : Nat := X - ((X / 2) &&& rep n 85)
def P2 (n Y : Nat) : Nat := (Y &&& rep n 51) + ((Y / 4) &&& rep n 51)
def P3 (n Z : Nat) : Nat := (Z + Z / 16) &&& rep n 15
/-- the bytes, one by one -/
def by1 : Nat → Nat → Nat
  | 0, _ => 0
  | n + 1, X => p1 (X % 256) + 256 * by1 n (X / 256)
def by2 : Nat → Nat → Nat
  | 0, _ => 0
  | n + 1, X => p2 (p1 (X % 256)) + 256 * by2 n (X / 256)
def by3 : Nat → Nat → Nat
  | 0, _ => 0
  | n + 1, X => pc8 (X % 256) + 256 * by3 n (X / 256)
theorem and_le_half (n X : Nat) : ((X / 2) &&& rep n 85) ≤ X := Nat.le_trans Nat.and_le_left (Nat.div_le_self _ _)
theorem P1_by : ∀ (n X : Nat), X < 256 ^ n → P1 n X = by1 n X
  | 0, X, h => by
    have : X = 0 := by simpa using h
    subst this; rfl
  | n + 1, X, h => by
    have hX : X / 256 < 256 ^ n := by rw [Nat.pow_succ] at h; exact Nat.div_lt_of_lt_mul (by rw [Nat.mul_comm]; exact h)
    have ih := P1_by n (X / 256) hX
    have q := bf1 (X % 256) (Nat.mod_lt _ (by omega)) (X / 256 % 2) (Nat.mod_lt _ (by omega))
    unfold P1 at ih ⊢
    rw [and_byte _ n 85 (by omega), show X / 2 % 256 = X % 256 / 2 + 128 * (X / 256 % 2) by omega, q.1, show X / 2 / 256 = X / 256 / 2 by omega, by1, ← ih, p1]
    have := and_le_half n (X / 256)
    omega
theorem P2_by : ∀ (n X : Nat), P2 n (by1 n X) = by2 n X
  | 0, X => by simp [P2, by1, by2, rep]
  | n + 1, X => by
    have ih := P2_by n (X / 256)
    have b4 := bf4 (X % 256) (Nat.mod_lt _ (by omega))
    have q := bf2 (p1 (X % 256)) b4.2.2.1 (by1 n (X / 256) % 4) (Nat.mod_lt _ (by omega))
    unfold P2 at ih ⊢
    have e1 : by1 (n + 1) X % 256 = p1 (X % 256) := by rw [by1]; omega
    have e2 : by1 (n + 1) X / 256 = by1 n (X / 256) := by rw [by1]; omega
    rw [and_byte _ n 51 (by omega), and_byte _ n 51 (by omega), e1, e2, show by1 (n + 1) X / 4 % 256 = p1 (X % 256) / 4 + 64 * (by1 n (X / 256) % 4) by omega, q, show by1 (n + 1) X / 4 / 256 = by1 n (X / 256) / 4 by omega, by2, ← ih, p2]
    omega
theorem by2_nib : ∀ (n X : Nat), by2 n X % 256 % 16 ≤ 4 ∧ by2 n X % 256 / 16 ≤ 4
  | 0, X => by simp [by2]
  | n + 1, X => by
    have b4 := bf4 (X % 256) (Nat.mod_lt _ (by omega))
    rw [by2, show (p2 (p1 (X % 256)) + 256 * by2 n (X / 256)) % 256 = p2 (p1 (X % 256)) by omega]
    exact ⟨b4.1, b4.2.1⟩
theorem P3_by : ∀ (n X : Nat), P3 n (by2 n X) = by3 n X
  | 0, X => by simp [P3, by2, by3, rep]
  | n + 1, X => by
    have ih := P3_by n (X / 256)
    have b4 := bf4 (X % 256) (Nat.mod_lt _ (by omega))
    have nb := by2_nib n (X / 256)
    unfold P3 at ih ⊢
    have e0 : by2 (n + 1) X = p2 (p1 (X % 256)) + 256 * by2 n (X / 256) := rfl
    obtain ⟨z, hz⟩ : ∃ z, z = p2 (p1 (X % 256)) := ⟨_, rfl⟩
    obtain ⟨Y, hY⟩ : ∃ Y, Y = by2 n (X / 256) := ⟨_, rfl⟩
    rw [← hz, ← hY] at e0
    rw [← hz] at b4
    rw [← hY] at nb ih
    have q := bf3 (z / 16) (by omega) (z % 16) (by omega) (Y % 16) (by omega)
    have hd : (z + 256 * Y) / 16 = z / 16 + 16 * Y := by omega
    have hz2 : z = 16 * (z / 16) + z % 16 := by omega
    obtain ⟨zq, hzq⟩ : ∃ zq, zq = z / 16 := ⟨_, rfl⟩
    obtain ⟨zr, hzr⟩ : ∃ zr, zr = z % 16 := ⟨_, rfl⟩
    obtain ⟨Yq, hYq⟩ : ∃ Yq, Yq = Y / 16 := ⟨_, rfl⟩
    obtain ⟨Yr, hYr⟩ : ∃ Yr, Yr = Y % 16 := ⟨_, rfl⟩
    have hYd : Y = 16 * Yq + Yr := by omega
    have hYr4 : Yr ≤ 4 := by have := nb.1; omega
    have hb1 : zq ≤ 4 := by omega
    have hb2 : zr ≤ 4 := by omega
    have hzz : z = 16 * zq + zr := by omega
    have key : z + 256 * Y + (zq + 16 * Y) = (17 * zq + zr + 16 * Yr) + 256 * (17 * Yq + Yr) := by rw [hzz, hYd]; omega
    have k1 : (z + 256 * Y + (z + 256 * Y) / 16) % 256 = 16 * (z / 16) + z % 16 + z / 16 + 16 * (Y % 16) := by
      rw [hd, ← hzq, ← hzr, ← hYr, key, Nat.add_mul_mod_self_left, Nat.mod_eq_of_lt (by omega)]; omega
    have k2 : (z + 256 * Y + (z + 256 * Y) / 16) / 256 = Y + Y / 16 := by
      rw [hd, ← hzq, ← hYq, key, Nat.add_mul_div_left _ _ (by omega), Nat.div_eq_of_lt (by omega), hYd]; omega
    rw [and_byte _ n 15 (by omega), e0, k1, q, k2, ih, by3, b4.2.2.2.2]
theorem cnt_shift (p : Nat → Bool) (k : Nat) : ∀ n, cnt p (k + n) = cnt p k + cnt (fun i => p (k + i)) n
  | 0 => rfl
  | n + 1 => by rw [← Nat.add_assoc, cnt, cnt_shift p k n, cnt]; omega
theorem pc8_eq (X : Nat) : pc8 (X % 256) = cnt (fun i => X.testBit i) 8 := by
  unfold pc8
  refine cnt_congr (fun i hi => ?_)
  show (X % 2 ^ 8).testBit i = _
  rw [Nat.testBit_mod_two_pow]
  simp [hi]
/-- the sum of the bytes' counts -/
theorem by3_sum (X : Nat) : ∃ c0 c1 c2 c3 c4 c5 c6 c7, c0 ≤ 8 ∧ c1 ≤ 8 ∧ c2 ≤ 8 ∧ c3 ≤ 8 ∧ c4 ≤ 8 ∧ c5 ≤ 8 ∧ c6 ≤ 8 ∧ c7 ≤ 8 ∧ by3 8 X = c0 + 256 * (c1 + 256 * (c2 + 256 * (c3 + 256 * (c4 + 256 * (c5 + 256 * (c6 + 256 * c7)))))) ∧ cnt (fun i => X.testBit i) 64 = c0 + c1 + c2 + c3 + c4 + c5 + c6 + c7 := by
  have l8 : ∀ Y, pc8 Y ≤ 8 := fun Y => cnt_le _ 8
  have sp : ∀ Y n, cnt (fun i => Y.testBit i) (8 + n) = pc8 (Y % 256) + cnt (fun i => (Y / 256).testBit i) n := by
    intro Y n
    rw [cnt_shift, pc8_eq]
    congr 1
    refine cnt_congr (fun i _ => ?_)
    show Y.testBit (8 + i) = (Y / 2 ^ 8).testBit i
    rw [Nat.testBit_div_two_pow, Nat.add_comm]
  refine ⟨pc8 (X % 256), pc8 (X / 256 % 256), pc8 (X / 256 / 256 % 256), pc8 (X / 256 / 256 / 256 % 256), pc8 (X / 256 / 256 / 256 / 256 % 256), pc8 (X / 256 / 256 / 256 / 256 / 256 % 256), pc8 (X / 256 / 256 / 256 / 256 / 256 / 256 % 256), pc8 (X / 256 / 256 / 256 / 256 / 256 / 256 / 256 % 256), l8 _, l8 _, l8 _, l8 _, l8 _, l8 _, l8 _, l8 _, ?_, ?_⟩
  · simp only [by3, Nat.mul_zero, Nat.add_zero]
  · have a1 := sp X 56
    have a2 := sp (X / 256) 48
    have a3 := sp (X / 256 / 256) 40
    have a4 := sp (X / 256 / 256 / 256) 32
    have a5 := sp (X / 256 / 256 / 256 / 256) 24
    have a6 := sp (X / 256 / 256 / 256 / 256 / 256) 16
    have a7 := sp (X / 256 / 256 / 256 / 256 / 256 / 256) 8
    have a8 := sp (X / 256 / 256 / 256 / 256 / 256 / 256 / 256) 0
    have a9 : cnt (fun i => (X / 256 / 256 / 256 / 256 / 256 / 256 / 256 / 256).testBit i) 0 = 0 := rfl
    simp only [Nat.reduceAdd] at a1 a2 a3 a4 a5 a6 a7 a8
    omega
theorem adB (a b X Y : Nat) : (a + 256 * X) + (b + 256 * Y) = (a + b) + 256 * (X + Y) := by omega
theorem sum_a {c0 c1 c2 c3 c4 c5 c6 c7 : Nat} : (c0 + 256 * (c1 + 256 * (c2 + 256 * (c3 + 256 * (c4 + 256 * (c5 + 256 * (c6 + 256 * c7))))))) + (c1 + 256 * (c2 + 256 * (c3 + 256 * (c4 + 256 * (c5 + 256 * (c6 + 256 * c7)))))) = (c0 + c1) + 256 * ((c1 + c2) + 256 * ((c2 + c3) + 256 * ((c3 + c4) + 256 * ((c4 + c5) + 256 * ((c5 + c6) + 256 * ((c6 + c7) + 256 * c7)))))) := by
  rw [adB, adB, adB, adB, adB, adB, Nat.add_right_comm c6 (256 * c7) c7]
theorem sum_b {c0 c1 c2 c3 c4 c5 c6 c7 : Nat} : ((c0 + c1) + 256 * ((c1 + c2) + 256 * ((c2 + c3) + 256 * ((c3 + c4) + 256 * ((c4 + c5) + 256 * ((c5 + c6) + 256 * ((c6 + c7) + 256 * c7))))))) + ((c2 + c3) + 256 * ((c3 + c4) + 256 * ((c4 + c5) + 256 * ((c5 + c6) + 256 * ((c6 + c7) + 256 * c7))))) = (c0 + c1 + c2 + c3) + 256 * ((c1 + c2 + c3 + c4) + 256 * ((c2 + c3 + c4 + c5) + 256 * ((c3 + c4 + c5 + c6) + 256 * ((c4 + c5 + c6 + c7) + 256 * ((c5 + c6 + c7) + 256 * ((c6 + c7) + 256 * c7)))))) := by
  rw [adB, adB, adB, adB, adB, Nat.add_right_comm (c5 + c6) _ c7]
  simp only [Nat.add_assoc]
theorem bnd8 {d0 d1 d2 d3 d4 d5 d6 d7 : Nat} (h0 : d0 ≤ 64) (h1 : d1 ≤ 64) (h2 : d2 ≤ 64) (h3 : d3 ≤ 64) (h4 : d4 ≤ 64) (h5 : d5 ≤ 64) (h6 : d6 ≤ 64) (h7 : d7 ≤ 64) : d0 + 256 * (d1 + 256 * (d2 + 256 * (d3 + 256 * (d4 + 256 * (d5 + 256 * (d6 + 256 * d7)))))) < 2 ^ 63 := by
  have b6 : d6 + 256 * d7 ≤ 64 * 257 := by omega
  have b5 : d5 + 256 * (d6 + 256 * d7) ≤ 64 + 256 * (64 * 257) := by omega
  have b4 : d4 + 256 * (d5 + 256 * (d6 + 256 * d7)) ≤ 64 + 256 * (64 + 256 * (64 * 257)) := by omega
  have b3 : d3 + 256 * (d4 + 256 * (d5 + 256 * (d6 + 256 * d7))) ≤ 64 + 256 * (64 + 256 * (64 + 256 * (64 * 257))) := by omega
  generalize d3 + 256 * (d4 + 256 * (d5 + 256 * (d6 + 256 * d7))) = E at b3 ⊢
  omega
theorem low7 (x : Int64) : (Int64.toInt32 x) &&& 127 = nI (uN x % 128) := by
  rw [pk_and _ 7 (by decide)]
  congr 1
  show (Int64.toInt32 x).toBitVec.toNat % 128 = _
  rw [Int64.toBitVec_toInt32, BitVec.signExtend_eq_setWidth_of_le _ (by omega), BitVec.toNat_setWidth]
  unfold uN
  omega
theorem s_bitCount {fu : Nat} {h : Hp} (s : Int64) : f_J13_bitCount_95d88 fu s h = some (nI (cnt (tb s) 64), h) := by
  have hX := uN_lt s
  have m5 : uN 6148914691236517205 = rep 8 85 := by decide
  have m3 : uN 3689348814741910323 = rep 8 51 := by decide
  have mf : uN 1085102592571150095 = rep 8 15 := by decide
  have e1 : uN (s - (lush s 1 &&& 6148914691236517205)) = by1 8 (uN s) := by
    have q : uN (lush s 1 &&& 6148914691236517205) = (uN s / 2) &&& rep 8 85 := by rw [uN_and, m5, show uN (lush s 1) = uN s / 2 from uN_lush s (k := 1) (by omega)]
    rw [uN_sub (by rw [q]; exact and_le_half 8 _), q]
    exact P1_by 8 (uN s) (by have : (256 : Nat) ^ 8 = 2 ^ 64 := by decide
                             omega)
  obtain ⟨s1, hs1⟩ : ∃ s1, s1 = s - (lush s 1 &&& 6148914691236517205) := ⟨_, rfl⟩
  rw [← hs1] at e1
  have hb : ∀ n X, by2 n X < 256 ^ n := by
    intro n
    induction n with
    | zero => intro X; show 0 < 1; omega
    | succ n ih =>
      intro X
      have := ih (X / 256)
      have b4 := bf4 (X % 256) (Nat.mod_lt _ (by omega))
      rw [by2, Nat.pow_succ]; omega
  have e2 : uN ((s1 &&& 3689348814741910323) + (lush s1 2 &&& 3689348814741910323)) = by2 8 (uN s) := by
    have q1 : uN (s1 &&& 3689348814741910323) = by1 8 (uN s) &&& rep 8 51 := by rw [uN_and, m3, e1]
    have q2 : uN (lush s1 2 &&& 3689348814741910323) = (by1 8 (uN s) / 4) &&& rep 8 51 := by rw [uN_and, m3, ← e1, show uN (lush s1 2) = uN s1 / 4 from uN_lush s1 (k := 2) (by omega)]
    have q3 := P2_by 8 (uN s)
    unfold P2 at q3
    have q4 := hb 8 (uN s)
    rw [uN_add (by rw [q1, q2, q3]; have : (256 : Nat) ^ 8 = 2 ^ 64 := by decide
                   omega), q1, q2, q3]
  obtain ⟨s2, hs2⟩ : ∃ s2, s2 = (s1 &&& 3689348814741910323) + (lush s1 2 &&& 3689348814741910323) := ⟨_, rfl⟩
  rw [← hs2] at e2
  have top : by2 8 (uN s) + by2 8 (uN s) / 16 < 2 ^ 64 := by
    have : ∀ X, by2 8 X ≤ 68 * (1 + 256 * (1 + 256 * (1 + 256 * (1 + 256 * (1 + 256 * (1 + 256 * (1 + 256))))))) := by
      intro X
      have b : ∀ Y, p2 (p1 (Y % 256)) ≤ 68 := fun Y => by have := bf4 (Y % 256) (Nat.mod_lt _ (by omega)); omega
      simp only [by2, Nat.mul_zero, Nat.add_zero]
      have b0 := b X
      have b1 := b (X / 256)
      have b2 := b (X / 256 / 256)
      have b3 := b (X / 256 / 256 / 256)
      have b4 := b (X / 256 / 256 / 256 / 256)
      have b5 := b (X / 256 / 256 / 256 / 256 / 256)
      have b6 := b (X / 256 / 256 / 256 / 256 / 256 / 256)
      have b7 := b (X / 256 / 256 / 256 / 256 / 256 / 256 / 256)
      omega
    have := this (uN s)
    omega
  have e3 : uN ((s2 + lush s2 4) &&& 1085102592571150095) = by3 8 (uN s) := by
    have q : uN (lush s2 4) = by2 8 (uN s) / 16 := by rw [← e2]; exact uN_lush s2 (k := 4) (by omega)
    rw [uN_and, mf, uN_add (by rw [q, e2]; exact top), q, e2]
    exact P3_by 8 (uN s)
  obtain ⟨s3, hs3⟩ : ∃ s3, s3 = (s2 + lush s2 4) &&& 1085102592571150095 := ⟨_, rfl⟩
  rw [← hs3] at e3
  obtain ⟨c0, c1, c2, c3, c4, c5, c6, c7, l0, l1, l2, l3, l4, l5, l6, l7, es, ec⟩ := by3_sum (uN s)
  clear top hb e1 e2 m5 m3 mf hX
  rw [es] at e3
  have d256 : ∀ a b : Nat, a < 256 → (a + 256 * b) / 256 = b := fun a b h => by rw [Nat.add_mul_div_left _ _ (by omega), Nat.div_eq_of_lt h, Nat.zero_add]
  have e4 : uN (s3 + lush s3 8) = (c0 + c1) + 256 * ((c1 + c2) + 256 * ((c2 + c3) + 256 * ((c3 + c4) + 256 * ((c4 + c5) + 256 * ((c5 + c6) + 256 * ((c6 + c7) + 256 * c7)))))) := by
    have q : uN (lush s3 8) = c1 + 256 * (c2 + 256 * (c3 + 256 * (c4 + 256 * (c5 + 256 * (c6 + 256 * c7))))) := by
      rw [show uN (lush s3 8) = uN s3 / 256 from uN_lush s3 (k := 8) (by omega), e3, d256 _ _ (by omega)]
    have eq := @sum_a c0 c1 c2 c3 c4 c5 c6 c7
    have bd : (c0 + c1) + 256 * ((c1 + c2) + 256 * ((c2 + c3) + 256 * ((c3 + c4) + 256 * ((c4 + c5) + 256 * ((c5 + c6) + 256 * ((c6 + c7) + 256 * c7)))))) < 2 ^ 63 := bnd8 (by clear eq es ec e3; omega) (by clear eq es ec e3; omega) (by clear eq es ec e3; omega) (by clear eq es ec e3; omega) (by clear eq es ec e3; omega) (by clear eq es ec e3; omega) (by clear eq es ec e3; omega) (by clear eq es ec e3; omega)
    rw [uN_add (by rw [q, e3, eq]; exact Nat.lt_trans bd (by decide)), q, e3, eq]
  obtain ⟨s4, hs4⟩ : ∃ s4, s4 = s3 + lush s3 8 := ⟨_, rfl⟩
  rw [← hs4] at e4
  have e5 : uN (s4 + lush s4 16) = (c0 + c1 + c2 + c3) + 256 * ((c1 + c2 + c3 + c4) + 256 * ((c2 + c3 + c4 + c5) + 256 * ((c3 + c4 + c5 + c6) + 256 * ((c4 + c5 + c6 + c7) + 256 * ((c5 + c6 + c7) + 256 * ((c6 + c7) + 256 * c7)))))) := by
    have q : uN (lush s4 16) = (c2 + c3) + 256 * ((c3 + c4) + 256 * ((c4 + c5) + 256 * ((c5 + c6) + 256 * ((c6 + c7) + 256 * c7)))) := by
      rw [show uN (lush s4 16) = uN s4 / (256 * 256) from uN_lush s4 (k := 16) (by omega), ← Nat.div_div_eq_div_mul, e4, d256 _ _ (by omega), d256 _ _ (by omega)]
    have eq := @sum_b c0 c1 c2 c3 c4 c5 c6 c7
    have bd : (c0 + c1 + c2 + c3) + 256 * ((c1 + c2 + c3 + c4) + 256 * ((c2 + c3 + c4 + c5) + 256 * ((c3 + c4 + c5 + c6) + 256 * ((c4 + c5 + c6 + c7) + 256 * ((c5 + c6 + c7) + 256 * ((c6 + c7) + 256 * c7)))))) < 2 ^ 63 := bnd8 (by clear eq es ec e3 e4; omega) (by clear eq es ec e3 e4; omega) (by clear eq es ec e3 e4; omega) (by clear eq es ec e3 e4; omega) (by clear eq es ec e3 e4; omega) (by clear eq es ec e3 e4; omega) (by clear eq es ec e3 e4; omega) (by clear eq es ec e3 e4; omega)
    rw [uN_add (by rw [q, e4, eq]; exact Nat.lt_trans bd (by decide)), q, e4, eq]
  obtain ⟨s5, hs5⟩ : ∃ s5, s5 = s4 + lush s4 16 := ⟨_, rfl⟩
  rw [← hs5] at e5
  have e6 : uN (s5 + lush s5 32) % 128 = c0 + c1 + c2 + c3 + c4 + c5 + c6 + c7 := by
    have q : uN (lush s5 32) = (c4 + c5 + c6 + c7) + 256 * ((c5 + c6 + c7) + 256 * ((c6 + c7) + 256 * c7)) := by
      rw [show uN (lush s5 32) = uN s5 / (256 * 256 * 256 * 256) from uN_lush s5 (k := 32) (by omega), ← Nat.div_div_eq_div_mul, ← Nat.div_div_eq_div_mul, ← Nat.div_div_eq_div_mul, e5, d256 _ _ (by omega), d256 _ _ (by omega), d256 _ _ (by omega), d256 _ _ (by omega)]
    have bd : (c0 + c1 + c2 + c3) + 256 * ((c1 + c2 + c3 + c4) + 256 * ((c2 + c3 + c4 + c5) + 256 * ((c3 + c4 + c5 + c6) + 256 * ((c4 + c5 + c6 + c7) + 256 * ((c5 + c6 + c7) + 256 * ((c6 + c7) + 256 * c7)))))) < 2 ^ 63 := bnd8 (by clear es ec e3 e4 e5 q; omega) (by clear es ec e3 e4 e5 q; omega) (by clear es ec e3 e4 e5 q; omega) (by clear es ec e3 e4 e5 q; omega) (by clear es ec e3 e4 e5 q; omega) (by clear es ec e3 e4 e5 q; omega) (by clear es ec e3 e4 e5 q; omega) (by clear es ec e3 e4 e5 q; omega)
    have bd2 : (c4 + c5 + c6 + c7) + 256 * ((c5 + c6 + c7) + 256 * ((c6 + c7) + 256 * c7)) < 2 ^ 63 := by clear es ec e3 e4 e5 q bd; omega
    rw [uN_add (by rw [q, e5]; exact Nat.lt_of_lt_of_le (Nat.add_lt_add bd bd2) (by decide)), q, e5]
    clear bd bd2 q e5 e4 e3 es ec
    generalize (c1 + c2 + c3 + c4) + 256 * ((c2 + c3 + c4 + c5) + 256 * ((c3 + c4 + c5 + c6) + 256 * ((c4 + c5 + c6 + c7) + 256 * ((c5 + c6 + c7) + 256 * ((c6 + c7) + 256 * c7))))) = A
    generalize (c5 + c6 + c7) + 256 * ((c6 + c7) + 256 * c7) = B
    omega
  show f_J13_bitCount_95d88_10 fu (s - (lush s 1 &&& 6148914691236517205)) h = _
  rw [← hs1]
  show f_J13_bitCount_95d88_24 fu ((s1 &&& 3689348814741910323) + (lush s1 2 &&& 3689348814741910323)) h = _
  rw [← hs2]
  show f_J13_bitCount_95d88_34 fu ((s2 + lush s2 4) &&& 1085102592571150095) h = _
  rw [← hs3]
  show f_J13_bitCount_95d88_41 fu (s3 + lush s3 8) h = _
  rw [← hs4]
  show f_J13_bitCount_95d88_48 fu (s4 + lush s4 16) h = _
  rw [← hs5]
  show some (((Int64.toInt32 (s5 + lush s5 32)) &&& 127), h) = _
  rw [low7, e6, ← ec, show cnt (fun i => (uN s).testBit i) 64 = cnt (tb s) 64 from cnt_congr (fun i _ => (tb_uN s i).symm)]
