/-! lay(w, h): a new sea -/
def g0 (w hh : Nat) : Sg := ⟨w, hh, fun _ => 0, fun _ => 0, fun _ => 16, 0, 0⟩
def lcH (h : Hp) (a k x y w hh : Nat) : Hp := putJ (putJ (putJ (putJ (putJ (putI (putI h (a + 4) k (nI x)) (a + 5) k (nI y)) a 4 (h.J a 4 ||| lsh 1 (nI k))) a 14 (h.J a 14 ||| (if x = 0 then lsh 1 (nI k) else 0))) a 15 (h.J a 15 ||| (if x = w - 1 then lsh 1 (nI k) else 0))) a 16 (h.J a 16 ||| (if y = 0 then lsh 1 (nI k) else 0))) a 17 (h.J a 17 ||| (if y = hh - 1 then lsh 1 (nI k) else 0))
def LC (h : Hp) (a w hh k : Nat) : Prop := (∀ c, c < k → h.I (a + 4) c = nI (c % w) ∧ h.I (a + 5) c = nI (c / w)) ∧ (∀ i, i < 64 → tb (h.J a 4) i = decide (i < k)) ∧ (∀ i, i < 64 → tb (h.J a 14) i = decide (i < k ∧ i % w = 0)) ∧ (∀ i, i < 64 → tb (h.J a 15) i = decide (i < k ∧ i % w = w - 1)) ∧ (∀ i, i < 64 → tb (h.J a 16) i = decide (i < k ∧ i / w = 0)) ∧ ∀ i, i < 64 → tb (h.J a 17) i = decide (i < k ∧ i / w = hh - 1)
/-- what the laying of cells leaves as it was -/
def Lx (a : Nat) (h h1 : Hp) : Prop := h1.N = h.N ∧ h1.K = h.K ∧ h1.L = h.L ∧ h1.R = h.R ∧ (∀ b, b ≠ a + 4 → b ≠ a + 5 → h1.I b = h.I b) ∧ (∀ b, b ≠ a → h1.J b = h.J b) ∧ ∀ j, j ≠ 4 → j ≠ 14 → j ≠ 15 → j ≠ 16 → j ≠ 17 → h1.J a j = h.J a j
section LAY
variable {h : Hp} {a fu : Nat}
theorem Lx.rf : Lx a h h := ⟨rfl, rfl, rfl, rfl, fun _ _ _ => rfl, fun _ _ => rfl, fun _ _ _ _ _ _ => rfl⟩
theorem Lx.tr {h1 h2 : Hp} (x : Lx a h h1) (y : Lx a h1 h2) : Lx a h h2 := ⟨y.1.trans x.1, y.2.1.trans x.2.1, y.2.2.1.trans x.2.2.1, y.2.2.2.1.trans x.2.2.2.1, fun b p q => (y.2.2.2.2.1 b p q).trans (x.2.2.2.2.1 b p q), fun b p => (y.2.2.2.2.2.1 b p).trans (x.2.2.2.2.2.1 b p), fun j p1 p2 p3 p4 p5 => (y.2.2.2.2.2.2 j p1 p2 p3 p4 p5).trans (x.2.2.2.2.2.2 j p1 p2 p3 p4 p5)⟩
theorem Lx.seaS {h1 : Hp} (e : Lx a h h1) (hS : SeaS h a) : SeaS h1 a := by
  obtain ⟨eN, eK, eL, eR, -⟩ := e
  have ear : ∀ {o k x kd n : Nat}, arr h o k x kd n → arr h1 o k x kd n := fun q => ⟨by rw [eR]; exact q.1, by rw [eK]; exact q.2.1, by rw [eL]; exact q.2.2⟩
  obtain ⟨s1, s2, s3, s4, s5, s6, s7⟩ := hS
  exact ⟨by rw [eK]; exact s1, ear s2, ear s3, ear s4, ear s5, ear s6, ear s7⟩
theorem lcH_Lx {k x y w hh : Nat} : Lx a h (lcH h a k x y w hh) := by
  refine ⟨rfl, rfl, rfl, rfl, fun b p q => ?_, fun b p => ?_, fun j p1 p2 p3 p4 p5 => ?_⟩
  · show up2 (up2 h.I (a + 4) k (nI x)) (a + 5) k (nI y) b = _
    rw [up2_ne _ q, up2_ne _ p]
  · unfold lcH
    funext j
    simp only [putJ_J, if_neg p]
    rfl
  · unfold lcH
    simp only [putJ_J, if_true]
    rw [if_neg p5, if_neg p4, if_neg p3, if_neg p2, if_neg p1]
    rfl
theorem s_layCell (hS : SeaS h a) {k x y w hh : Nat} (hk : k < 64) (hx : x < w) (hy : y < hh) (hw8 : w ≤ 8) (hh8 : hh ≤ 8) (iw : h.I a 0 = nI w) (ih : h.I a 1 = nI hh) : f_X4_layCell fu a (nI k) (nI x) (nI y) h = some ((), lcH h a k x y w hh) := by
  have hK := hS.1
  obtain ⟨-, -, -, -, h11, h12, -⟩ := id hS
  obtain ⟨k1, ek1⟩ : ∃ z, z = putI h (a + 4) k (nI x) := ⟨_, rfl⟩
  obtain ⟨k2, ek2⟩ : ∃ z, z = putI k1 (a + 5) k (nI y) := ⟨_, rfl⟩
  obtain ⟨k3, ek3⟩ : ∃ z, z = putJ k2 a 4 (h.J a 4 ||| lsh 1 (nI k)) := ⟨_, rfl⟩
  obtain ⟨k4, ek4⟩ : ∃ z, z = putJ k3 a 14 (h.J a 14 ||| (if x = 0 then lsh 1 (nI k) else 0)) := ⟨_, rfl⟩
  obtain ⟨k5, ek5⟩ : ∃ z, z = putJ k4 a 15 (h.J a 15 ||| (if x = w - 1 then lsh 1 (nI k) else 0)) := ⟨_, rfl⟩
  obtain ⟨k6, ek6⟩ : ∃ z, z = putJ k5 a 16 (h.J a 16 ||| (if y = 0 then lsh 1 (nI k) else 0)) := ⟨_, rfl⟩
  have K1 : k1.K = h.K ∧ k1.L = h.L ∧ k1.R = h.R ∧ k1.J = h.J := by rw [ek1]; exact ⟨rfl, rfl, rfl, rfl⟩
  have K2 : k2.K = h.K ∧ k2.L = h.L ∧ k2.R = h.R ∧ k2.J = h.J := by rw [ek2]; exact K1
  have K3 : k3.K = h.K := by rw [ek3]; exact K2.1
  have K4 : k4.K = h.K := by rw [ek4]; exact K3
  have K5 : k5.K = h.K := by rw [ek5]; exact K4
  have K6 : k6.K = h.K := by rw [ek6]; exact K5
  have I2 : k2.I a 0 = nI w ∧ k2.I a 1 = nI hh := by rw [ek2, ek1]; simp only [putI_I]; rw [if_neg (by omega), if_neg (by omega), if_neg (by omega), if_neg (by omega)]; exact ⟨iw, ih⟩
  have I4 : k4.I = k2.I := by rw [ek4, ek3]; rfl
  have I6 : k6.I = k2.I := by rw [ek6, ek5]; exact I4
  have J3 : k3.J a 14 = h.J a 14 := by rw [ek3, putJ_J, K2.2.2.2]; simp
  have J4 : k4.J a 15 = h.J a 15 := by rw [ek4, putJ_J, ek3, putJ_J, K2.2.2.2]; simp
  have J5 : k5.J a 16 = h.J a 16 := by rw [ek5, putJ_J, ek4, putJ_J, ek3, putJ_J, K2.2.2.2]; simp
  have J6 : k6.J a 17 = h.J a 17 := by rw [ek6, putJ_J, ek5, putJ_J, ek4, putJ_J, ek3, putJ_J, K2.2.2.2]; simp
  have F125 : ∀ s2, s2 = (if y = hh - 1 then lsh 1 (nI k) else 0) → f_X4_layCell_125 fu a (h.J a 17) s2 k6 = some ((), lcH h a k x y w hh) := by
    intro s2 e
    unfold f_X4_layCell_125
    rw [pJ_e (by rw [K6]; exact hK), Option.bind_some, e]
    unfold lcH
    rw [ek6, ek5, ek4, ek3, ek2, ek1]
  have F100 : ∀ s2, s2 = (if y = 0 then lsh 1 (nI k) else 0) → f_X4_layCell_100 fu a (nI y) (lsh 1 (nI k)) a (h.J a 16) s2 k5 = some ((), lcH h a k x y w hh) := by
    intro s2 e
    unfold f_X4_layCell_100
    rw [pJ_e (by rw [K5]; exact hK), Option.bind_some, e, ← ek6, gJ_e (by rw [K6]; exact hK), Option.bind_some, gI_e (by rw [K6]; exact hK), Option.bind_some, I6, I2.2, J6, show nI hh - 1 = nI (hh - 1) from l_sub (show 1 ≤ hh by omega)]
    by_cases q : y = hh - 1
    · rw [if_pos (by rw [q])]; exact F125 _ (by rw [if_pos q])
    · rw [if_neg (fun z => q ((nI_eq (by omega) (by omega)).mp z))]; exact F125 _ (by rw [if_neg q])
  have F81 : ∀ s2, s2 = (if x = w - 1 then lsh 1 (nI k) else 0) → f_X4_layCell_81 fu a (nI y) (lsh 1 (nI k)) a (h.J a 15) s2 k4 = some ((), lcH h a k x y w hh) := by
    intro s2 e
    unfold f_X4_layCell_81
    rw [pJ_e (by rw [K4]; exact hK), Option.bind_some, e, ← ek5, gJ_e (by rw [K5]; exact hK), Option.bind_some, J5]
    by_cases q : y = 0
    · rw [if_pos (by rw [q]; rfl)]; exact F100 _ (by rw [if_pos q])
    · rw [if_neg (fun z => q ((l_eq (by omega) (by decide)).mp z))]; exact F100 _ (by rw [if_neg q])
  have F56 : ∀ s2, s2 = (if x = 0 then lsh 1 (nI k) else 0) → f_X4_layCell_56 fu a (nI x) (nI y) (lsh 1 (nI k)) a (h.J a 14) s2 k3 = some ((), lcH h a k x y w hh) := by
    intro s2 e
    unfold f_X4_layCell_56
    rw [pJ_e (by rw [K3]; exact hK), Option.bind_some, e, ← ek4, gJ_e (by rw [K4]; exact hK), Option.bind_some, gI_e (by rw [K4]; exact hK), Option.bind_some, I4, I2.1, J4, show nI w - 1 = nI (w - 1) from l_sub (show 1 ≤ w by omega)]
    by_cases q : x = w - 1
    · rw [if_pos (by rw [q])]; exact F81 _ (by rw [if_pos q])
    · rw [if_neg (fun z => q ((nI_eq (by omega) (by omega)).mp z))]; exact F81 _ (by rw [if_neg q])
  unfold f_X4_layCell
  rw [if_pos hK, if_neg (nI_pos (by omega)), if_pos (l_lt hk (by omega)), gR_e hK, h11.1, Option.bind_some, sI_e h11.2.1 h11.2.2 hk (by omega), Option.bind_some, ← ek1]
  rw [gR_e (h := k1) (by rw [K1.1]; exact hK), K1.2.2.1, h12.1, Option.bind_some, sI_e (h := k1) (n := 64) (by rw [K1.1]; exact h12.2.1) (by rw [K1.2.1]; exact h12.2.2) hk (by omega), Option.bind_some, ← ek2]
  rw [gJ_e (h := k2) (by rw [K2.1]; exact hK), Option.bind_some, K2.2.2.2, pJ_e (h := k2) (by rw [K2.1]; exact hK), Option.bind_some, ← ek3, gJ_e (h := k3) (by rw [K3]; exact hK), Option.bind_some, J3]
  by_cases q : x = 0
  · rw [if_pos (by rw [q]; rfl)]; exact F56 _ (by rw [if_pos q])
  · rw [if_neg (fun z => q ((l_eq (by omega) (by decide)).mp z))]; exact F56 _ (by rw [if_neg q])
theorem bit_step {v : Int64} {k i : Nat} {P : Nat → Prop} [DecidablePred P] (hk : k < 64) (hi : i < 64) (hv : tb v i = decide (i < k ∧ P i)) {p : Prop} [Decidable p] (hp : p ↔ P k) : tb (v ||| (if p then lsh 1 (nI k) else 0)) i = decide (i < k + 1 ∧ P i) := by
  rw [tb_or, hv]
  by_cases e : i = k
  · subst e
    by_cases q : P i
    · rw [if_pos (hp.mpr q), tb_bit hk hi]; simp [q]
    · rw [if_neg (fun z => q (hp.mp z)), tb_0]; simp [q]
  · have d : decide (i < k + 1 ∧ P i) = decide (i < k ∧ P i) := decide_eq_decide.mpr ⟨fun z => ⟨by omega, z.2⟩, fun z => ⟨by omega, z.2⟩⟩
    rw [d]
    by_cases q : p
    · rw [if_pos q, tb_bit hk hi]; simp [e]
    · rw [if_neg q, tb_0]; simp
theorem LC_step {w hh k : Nat} (hk : k < 64) (hl : LC h a w hh k) : LC (lcH h a k (k % w) (k / w) w hh) a w hh (k + 1) := by
  obtain ⟨l1, l2, l3, l4, l5, l6⟩ := hl
  have J : (lcH h a k (k % w) (k / w) w hh).J a 4 = (h.J a 4 ||| lsh 1 (nI k)) ∧ (lcH h a k (k % w) (k / w) w hh).J a 14 = (h.J a 14 ||| (if k % w = 0 then lsh 1 (nI k) else 0)) ∧ (lcH h a k (k % w) (k / w) w hh).J a 15 = (h.J a 15 ||| (if k % w = w - 1 then lsh 1 (nI k) else 0)) ∧ (lcH h a k (k % w) (k / w) w hh).J a 16 = (h.J a 16 ||| (if k / w = 0 then lsh 1 (nI k) else 0)) ∧ (lcH h a k (k % w) (k / w) w hh).J a 17 = (h.J a 17 ||| (if k / w = hh - 1 then lsh 1 (nI k) else 0)) := by
    unfold lcH
    simp only [putJ_J]
    simp
  refine ⟨fun c hc => ?_, fun i hi => ?_, fun i hi => ?_, fun i hi => ?_, fun i hi => ?_, fun i hi => ?_⟩
  · show (up2 (up2 h.I (a + 4) k (nI (k % w))) (a + 5) k (nI (k / w))) (a + 4) c = _ ∧ (up2 (up2 h.I (a + 4) k (nI (k % w))) (a + 5) k (nI (k / w))) (a + 5) c = _
    rw [up2_ne _ (by omega), up2_eq, up2_eq, up2_ne _ (by omega)]
    by_cases e : c = k
    · rw [if_pos e, if_pos e, e]; exact ⟨rfl, rfl⟩
    · rw [if_neg e, if_neg e]; exact l1 c (by omega)
  · rw [J.1]
    have := bit_step (P := fun _ => True) hk hi (by rw [l2 i hi]; simp) (p := True) (Iff.rfl)
    rw [if_pos trivial] at this
    rw [this]; simp
  · rw [J.2.1]; exact bit_step (P := fun i => i % w = 0) hk hi (l3 i hi) Iff.rfl
  · rw [J.2.2.1]; exact bit_step (P := fun i => i % w = w - 1) hk hi (l4 i hi) Iff.rfl
  · rw [J.2.2.2.1]; exact bit_step (P := fun i => i / w = 0) hk hi (l5 i hi) Iff.rfl
  · rw [J.2.2.2.2]; exact bit_step (P := fun i => i / w = hh - 1) hk hi (l6 i hi) Iff.rfl
theorem s_lc37 {w hh y : Nat} (hw0 : 0 < w) (hw8 : w ≤ 8) (hh8 : hh ≤ 8) (hy : y < hh) {k27 : Nat → Int32 → Hp → Option (Unit × Hp)} : ∀ (k x n : Nat) (h : Hp), x + k = w → k < n → SeaS h a → h.I a 0 = nI w → h.I a 1 = nI hh → LC h a w hh (w * y + x) → ∃ h1, f_X4_layCells_37 fu k27 n a (nI y) (nI x) h = k27 a (nI (y + 1)) h1 ∧ Lx a h h1 ∧ LC h1 a w hh (w * (y + 1))
  | 0, x, n, h, hx, hn, hS, iw, ih, hl => by
    obtain ⟨n, rfl⟩ := Nat.exists_eq_succ_of_ne_zero (show n ≠ 0 by omega)
    obtain rfl : x = w := by omega
    refine ⟨h, ?_, Lx.rf, by rw [Nat.mul_add, Nat.mul_one]; exact hl⟩
    rw [f_X4_layCells_37, gI_e hS.1, Option.bind_some, iw, if_pos (nI_le (Nat.le_refl _) (by omega)), nI_1]
  | k + 1, x, n, h, hx, hn, hS, iw, ih, hl => by
    obtain ⟨n, rfl⟩ := Nat.exists_eq_succ_of_ne_zero (show n ≠ 0 by omega)
    have hc : w * y + x < 64 := by
      have : w * y ≤ w * 7 := Nat.mul_le_mul_left _ (by omega)
      have : w * (y + 1) ≤ 8 * 8 := Nat.mul_le_mul hw8 (by omega)
      rw [Nat.mul_add, Nat.mul_one] at this
      omega
    have m1 : (w * y + x) % w = x := by rw [Nat.mul_add_mod, Nat.mod_eq_of_lt (by omega)]
    have m2 : (w * y + x) / w = y := by rw [Nat.mul_add_div hw0, Nat.div_eq_of_lt (by omega), Nat.add_zero]
    have E := lcH_Lx (h := h) (a := a) (k := w * y + x) (x := x) (y := y) (w := w) (hh := hh)
    have L1 := LC_step (w := w) (hh := hh) hc hl
    rw [m1, m2] at L1
    obtain ⟨h1, q1, q2, q3⟩ := s_lc37 hw0 hw8 hh8 hy k (x + 1) n (lcH h a (w * y + x) x y w hh) (by omega) (by omega) (E.seaS hS) (by rw [E.2.2.2.2.1 a (by omega) (by omega)]; exact iw) (by rw [E.2.2.2.2.1 a (by omega) (by omega)]; exact ih) L1
    refine ⟨h1, ?_, E.tr q2, q3⟩
    rw [f_X4_layCells_37, gI_e hS.1, Option.bind_some, iw, if_neg (nI_ge (by omega) (by omega)), Option.bind_some, pk_mul, nI_add, s_layCell hS hc (by omega) hy hw8 hh8 iw ih, Option.bind_some, nI_1]
    exact q1
theorem s_lc27 {w hh : Nat} (hw0 : 0 < w) (hw8 : w ≤ 8) (hh8 : hh ≤ 8) (hf : 64 < fu) : ∀ (k y n : Nat) (h : Hp), y + k = hh → k < n → SeaS h a → h.I a 0 = nI w → h.I a 1 = nI hh → LC h a w hh (w * y) → ∃ h1, f_X4_layCells_27 fu n a (nI y) h = some ((), h1) ∧ Lx a h h1 ∧ LC h1 a w hh (w * hh)
  | 0, y, n, h, hy, hn, hS, iw, ih, hl => by
    obtain ⟨n, rfl⟩ := Nat.exists_eq_succ_of_ne_zero (show n ≠ 0 by omega)
    obtain rfl : y = hh := by omega
    refine ⟨h, ?_, Lx.rf, hl⟩
    rw [f_X4_layCells_27, gI_e hS.1, Option.bind_some, ih, if_pos (nI_le (Nat.le_refl _) (by omega))]
  | k + 1, y, n, h, hy, hn, hS, iw, ih, hl => by
    obtain ⟨n, rfl⟩ := Nat.exists_eq_succ_of_ne_zero (show n ≠ 0 by omega)
    obtain ⟨h1, q1, q2, q3⟩ := s_lc37 (fu := fu) hw0 hw8 hh8 (show y < hh by omega) (k27 := fun y0 y1 hy => f_X4_layCells_27 fu n y0 y1 hy) w 0 fu h (by omega) (by omega) hS iw ih (by rw [Nat.add_zero]; exact hl)
    obtain ⟨h2, r1, r2, r3⟩ := s_lc27 hw0 hw8 hh8 hf k (y + 1) n h1 (by omega) (by omega) (q2.seaS hS) (by rw [q2.2.2.2.2.1 a (by omega) (by omega)]; exact iw) (by rw [q2.2.2.2.2.1 a (by omega) (by omega)]; exact ih) q3
    refine ⟨h2, ?_, q2.tr r2, r3⟩
    rw [f_X4_layCells_27, gI_e hS.1, Option.bind_some, ih, if_neg (nI_ge (by omega) (by omega))]
    exact q1.trans r1
theorem s_fill_l {b L : Nat} {v : Int32} (hL : L < 2 ^ 31) : ∀ (k j n : Nat) (h : Hp), j + k = L → k < n → h.K b = 8 → h.L b = L → (∀ i, i < j → h.I b i = v) → ∃ h1, f_J7_fill_53178_5 fu n b v (nI j) (nI L) h = some ((), h1) ∧ Ed (fun q => q = b) h h1 ∧ h1.J = h.J ∧ ∀ i, i < L → h1.I b i = v
  | 0, j, n, h, hj, hn, hK, hLb, hv => by
    obtain ⟨n, rfl⟩ := Nat.exists_eq_succ_of_ne_zero (show n ≠ 0 by omega)
    obtain rfl : j = L := by omega
    exact ⟨h, by rw [f_J7_fill_53178_5, if_pos (nI_le (Nat.le_refl _) hL)], Ed.rf, rfl, hv⟩
  | k + 1, j, n, h, hj, hn, hK, hLb, hv => by
    obtain ⟨n, rfl⟩ := Nat.exists_eq_succ_of_ne_zero (show n ≠ 0 by omega)
    obtain ⟨h1, q1, q2, q3, q4⟩ := s_fill_l hL k (j + 1) n (putI h b j v) (by omega) (by omega) hK hLb (fun i hi => by
      rw [putI_I, if_pos rfl]
      by_cases e : i = j
      · rw [if_pos e]
      · rw [if_neg e]; exact hv i (by omega))
    refine ⟨h1, ?_, Ed.tr (Ed.pI rfl) q2, q3.trans rfl, q4⟩
    rw [f_J7_fill_53178_5, if_neg (nI_ge (by omega) hL), sI_e hK hLb (by omega) hL, Option.bind_some, nI_1]
    exact q1
theorem s_fill {b L : Nat} {v : Int32} (hL : L < fu) (hf : fu < 2 ^ 31) (hK : h.K b = 8) (hLb : h.L b = L) : ∃ h1, f_J7_fill_53178 fu b v h = some ((), h1) ∧ Ed (fun q => q = b) h h1 ∧ h1.J = h.J ∧ ∀ i, i < L → h1.I b i = v := by
  obtain ⟨h1, q1, q2⟩ := s_fill_l (fu := fu) (b := b) (L := L) (v := v) (by omega) L 0 fu h (by omega) (by omega) hK hLb (fun i hi => by omega)
  refine ⟨h1, ?_, q2⟩
  unfold f_J7_fill_53178 aN
  rw [if_pos (by omega), Option.bind_some, hLb]
  exact q1
end LAY
