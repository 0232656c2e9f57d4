/-! THE CLASS'S SEA: its numbers, its reads -/
def SeaS (h : Hp) (a : Nat) : Prop := h.K a = 4 ∧ arr h a 8 (a + 1) 8 64 ∧ arr h a 9 (a + 2) 8 64 ∧ arr h a 10 (a + 3) 8 6 ∧ arr h a 11 (a + 4) 8 64 ∧ arr h a 12 (a + 5) 8 64 ∧ arr h a 19 (a + 6) 9 25
/-- numbers and rows -/
def SeaI (h : Hp) (a : Nat) (g : Sg) : Prop := h.I a 0 = nI g.w ∧ h.I a 1 = nI g.hh ∧ h.I a 2 = nI g.n ∧ h.I a 6 = g.ni ∧ h.I a 7 = g.fl ∧ (∀ c, c < 64 → h.I (a + 1) c = nI (g.ld c) - 1) ∧ (∀ c, c < 64 → h.I (a + 2) c = g.sw c) ∧ (∀ k, k < 6 → h.I (a + 3) k = g.dr k) ∧ ∀ c, c < g.n → h.I (a + 4) c = nI (c % g.w) ∧ h.I (a + 5) c = nI (c / g.w)
/-- sets: cells, shore, where birds are, edges -/
def SeaJ (h : Hp) (a : Nat) (g : Sg) : Prop := (∀ i, i < 64 → tb (h.J a 4) i = decide (i < g.n)) ∧ (∀ i, i < 64 → tb (h.J a 5) i = decide (0 < g.ld i)) ∧ (∀ i, i < g.n → tb (h.J a 13) i = bird g i) ∧ (∀ i, i < 64 → tb (h.J a 14) i = decide (i < g.n ∧ i % g.w = 0)) ∧ (∀ i, i < 64 → tb (h.J a 15) i = decide (i < g.n ∧ i % g.w = g.w - 1)) ∧ (∀ i, i < 64 → tb (h.J a 16) i = decide (i < g.n ∧ i / g.w = 0)) ∧ ∀ i, i < 64 → tb (h.J a 17) i = decide (i < g.n ∧ i / g.w = g.hh - 1)
def Se (h : Hp) (a : Nat) (g : Sg) : Prop := SeaS h a ∧ SeaI h a g ∧ SeaJ h a g ∧ g.ok
/-- a set gathered cell by cell -/
def mk (p : Nat → Bool) : Nat → Nat → Int64 → Int64
  | 0, _, x => x
  | k + 1, c, x => mk p k (c + 1) (if p c then x ||| lsh 1 (nI c) else x)
theorem mk_b {p : Nat → Bool} {i : Nat} (hi : i < 64) : ∀ (k c : Nat) (x : Int64), c + k ≤ 64 → tb (mk p k c x) i = (tb x i || (decide (c ≤ i ∧ i < c + k) && p i))
  | 0, c, x, _ => by rw [mk, decide_eq_false (by omega)]; simp
  | k + 1, c, x, hk => by
    rw [mk, mk_b hi k (c + 1) _ (by omega)]
    by_cases hic : i = c
    · subst hic
      rw [decide_eq_false (by omega), decide_eq_true (by omega)]
      cases hp : p i
      · simp
      · simp [tb_or, tb_bit (show i < 64 by omega) hi]
    · have e1 : decide (c + 1 ≤ i ∧ i < c + 1 + k) = decide (c ≤ i ∧ i < c + (k + 1)) := decide_eq_decide.mpr (by omega)
      rw [e1]
      cases hp : p c
      · simp
      · simp [tb_or, tb_bit (show c < 64 by omega) hi, hic]
section SEA
variable {h : Hp} {a fu : Nat} {g : Sg}
theorem s_has {s : Int64} {c : Nat} (hc : c < 64) : f_X6_has fu s (nI c) h = some (if tb s c then 1 else 0, h) := by
  unfold f_X6_has
  by_cases ht : tb s c = true
  · rw [if_neg (fun q => by rw [(has6 s hc).mp q] at ht; cases ht)]; simp [ht]
  · rw [if_pos ((has6 s hc).mpr (by simpa using ht))]; simp [ht]
theorem s_hasCell_y (hS : Se h a g) {c : Nat} (hc : c < g.n) : f_X4_hasCell fu a (nI c) h = some (1, h) := by
  have hK := hS.1.1
  have hn := hS.2.2.2.n64
  unfold f_X4_hasCell
  rw [if_pos hK, if_neg (nI_pos (by omega)), gI_e hK, Option.bind_some, hS.2.1.2.2.1, if_neg (nI_ge hc (by omega))]
theorem s_hasCell_n (hS : Se h a g) {x : Int32} (hx : x < 0 ∨ nI g.n ≤ x) : f_X4_hasCell fu a x h = some (0, h) := by
  have hK := hS.1.1
  unfold f_X4_hasCell
  rw [if_pos hK]
  by_cases h0 : x < 0
  · rw [if_pos h0]
  · rw [if_neg h0, gI_e hK, Option.bind_some, hS.2.1.2.2.1, if_pos (hx.resolve_left h0)]
theorem s_signAt (hS : Se h a g) {c wt what : Nat} (hc : c < g.n) (hwt : wt < 6) (hwh : what < 3) : f_X4_signAt fu a (nI c) (nI wt) (nI what) h = some (sgn g c wt what, h) := by
  have hK := hS.1.1
  have hn := hS.2.2.2.n64
  obtain ⟨-, -, h9, -, -, h12, -⟩ := hS.1
  unfold f_X4_signAt sgn
  rw [if_pos hK]
  by_cases e0 : what = 0
  · rw [if_pos ((l_eq (by omega) (by decide)).mpr e0), if_pos e0, gR_e hK, h9.1, Option.bind_some, aI_e h9.2.1 h9.2.2 (by omega) (by omega), Option.bind_some, hS.2.1.2.2.2.2.2.2.1 c (by omega)]
  · rw [if_neg (fun q => e0 ((l_eq (by omega) (by decide)).mp q)), if_neg e0]
    by_cases e1 : what = 1
    · rw [if_pos ((l_eq (by omega) (by decide)).mpr e1), if_pos e1, gI_e hK, Option.bind_some, hS.2.1.2.2.2.1, s_has (by omega), Option.bind_some, tb_i2l _ (by omega)]
      by_cases hb : bt g.ni wt = true
      · simp only [hb, if_true]
        rw [if_neg (by decide), gR_e hK, h12.1, Option.bind_some, aI_e h12.2.1 h12.2.2 (by omega) (by omega), Option.bind_some, (hS.2.1.2.2.2.2.2.2.2.2 c hc).2, l_div (by have := Nat.div_le_self c g.w; omega) (by decide) (by decide)]
      · simp only [hb]
        rw [if_pos (by decide)]; rfl
    · rw [if_neg (fun q => e1 ((l_eq (by omega) (by decide)).mp q)), if_neg e1, gI_e hK, Option.bind_some, hS.2.1.2.2.2.2.1, s_has (by omega), Option.bind_some, tb_i2l _ (by omega)]
      by_cases hb : bt g.fl wt = true
      · simp only [hb, if_true]
        rw [if_neg (by decide), gJ_e hK, Option.bind_some, s_has (by omega), Option.bind_some, hS.2.2.1.2.2.1 c hc]
        by_cases hbi : bird g c = true
        · simp only [hbi, if_true]; rw [if_neg (by decide)]
        · simp only [hbi]; rw [if_pos (by decide)]; rfl
      · simp only [hb]
        rw [if_pos (by decide)]; rfl
theorem s_having_l (hS : Se h a g) {v : Int32} {wt what : Nat} (hwt : wt < 6) (hwh : what < 3) : ∀ (k c n : Nat) (x : Int64), c + k = g.n → k < n → f_X4_having_6 fu n a (nI what) v (nI wt) x (nI c) h = some (mk (fun i => decide (sgn g i wt what = v)) k c x, h)
  | 0, c, n, x, hc, hn => by
    have h64 := hS.2.2.2.n64
    obtain ⟨n, rfl⟩ := Nat.exists_eq_succ_of_ne_zero (show n ≠ 0 by omega)
    obtain rfl : c = g.n := by omega
    rw [f_X4_having_6, gI_e hS.1.1, Option.bind_some, hS.2.1.2.2.1, if_pos (nI_le (Nat.le_refl _) (by omega))]; rfl
  | k + 1, c, n, x, hc, hn => by
    have h64 := hS.2.2.2.n64
    obtain ⟨n, rfl⟩ := Nat.exists_eq_succ_of_ne_zero (show n ≠ 0 by omega)
    rw [f_X4_having_6, gI_e hS.1.1, Option.bind_some, hS.2.1.2.2.1, if_neg (nI_ge (show c < g.n by omega) (by omega)), s_signAt hS (by omega) hwt hwh, Option.bind_some, mk]
    by_cases e : sgn g c wt what = v
    · simp only [e, if_true, decide_true]
      show f_X4_having_6 fu n a (nI what) v (nI wt) (x ||| lsh 1 (nI c)) (nI c + 1) h = _
      rw [nI_1]
      exact s_having_l hS hwt hwh k (c + 1) n _ (by omega) (by omega)
    · simp only [e, if_false, decide_false]
      show f_X4_having_6 fu n a (nI what) v (nI wt) x (nI c + 1) h = _
      rw [nI_1]
      exact s_having_l hS hwt hwh k (c + 1) n _ (by omega) (by omega)
theorem s_having (hS : Se h a g) (hf : 64 < fu) {v : Int32} {wt what : Nat} (hwt : wt < 6) (hwh : what < 3) : f_X4_having fu a (nI what) v (nI wt) h = some (mk (fun i => decide (sgn g i wt what = v)) g.n 0 0, h) := by
  have h64 := hS.2.2.2.n64
  unfold f_X4_having
  rw [if_pos hS.1.1]
  exact s_having_l hS hwt hwh g.n 0 fu 0 (by omega) (by omega)
theorem s_driftsBy (hS : Se h a g) {wt d : Nat} (hwt : wt < 6) (hd : d < 9) : f_X4_driftsBy fu a (nI wt) (nI d) h = some (if bt (g.dr wt) d then 1 else 0, h) := by
  have hK := hS.1.1
  obtain ⟨-, -, -, h10, -⟩ := hS.1
  unfold f_X4_driftsBy
  rw [if_pos hK, gR_e hK, h10.1, Option.bind_some, aI_e h10.2.1 h10.2.2 hwt (by omega), Option.bind_some, hS.2.1.2.2.2.2.2.2.2.1 wt hwt, s_has (by omega), Option.bind_some, tb_i2l _ (by omega)]
  cases bt (g.dr wt) d <;> simp
theorem clamp_i {x a b k : Nat} (hx : x < 64) (ha : a < 3) (hb : b < 3) (hk0 : 0 < k) (hk : k < 64) : mmax 0 (mmin ((nI x + (nI a - 1)) + (nI b - 1)) (nI k - 1)) = nI (mv x a b k) := by
  have e1 : ((nI x + (nI a - 1)) + (nI b - 1)).toInt = (x : Int) + (a - 1) + (b - 1) := ti_add (ti_add (ti_n (by omega)) (ti_sub (ti_n (by omega)) ti_1 (by omega)) (by omega)) (ti_sub (ti_n (by omega)) ti_1 (by omega)) (by omega)
  rw [show nI k - 1 = nI (k - 1) from l_sub hk0]
  unfold mmin mmax
  by_cases h0 : 2 ≤ x + a + b
  · have e3 : ((nI x + (nI a - 1)) + (nI b - 1)) = nI (x + a + b - 2) := ti_eq (by rw [e1]; omega) (by omega)
    rw [e3]
    by_cases h1 : x + a + b - 2 ≤ k - 1
    · rw [if_neg (nI_nlt h1 (by omega))]
      unfold mv; rw [Nat.min_eq_left h1]
      by_cases h2 : x + a + b - 2 = 0
      · rw [h2]; decide
      · rw [if_pos (l_gt (Nat.pos_of_ne_zero h2) (by omega))]
    · rw [if_pos (nI_lt (by omega) (by omega))]
      unfold mv; rw [Nat.min_eq_right (by omega)]
      by_cases h2 : k - 1 = 0
      · rw [h2]; decide
      · rw [if_pos (l_gt (Nat.pos_of_ne_zero h2) (by omega))]
  · rw [if_neg (show ¬ nI (k - 1) < _ by rw [lt_ti, e1, ti_n (by omega)]; omega), if_neg (by rw [lt_ti, e1, ti_0]; omega)]
    unfold mv
    rw [show x + a + b - 2 = 0 by omega, Nat.zero_min]; rfl
theorem s_target (hS : Se h a g) {c way d : Nat} (hc : c < g.n) (hw : way < 9) (hd : d < 9) : f_X4_target fu a (nI c) (nI way) (nI d) h = some (nI (gof g c way d), h) := by
  have hK := hS.1.1
  have h64 := hS.2.2.2.n64
  obtain ⟨w2, w8, h2, h8, -, -⟩ := hS.2.2.2
  obtain ⟨-, -, -, -, h11, h12, -⟩ := hS.1
  have hcw : c % g.w < g.w := Nat.mod_lt _ (by omega)
  have hch : c / g.w < g.hh := Nat.div_lt_of_lt_mul hc
  unfold f_X4_target
  rw [if_pos hK, gR_e hK, h11.1, Option.bind_some, aI_e h11.2.1 h11.2.2 (by omega) (by omega), Option.bind_some, (hS.2.1.2.2.2.2.2.2.2.2 c hc).1]
  simp only [f_X4_eastward, f_X4_southward, f_X4_clamped, Option.bind_some]
  rw [gR_e hK, h12.1, Option.bind_some, aI_e h12.2.1 h12.2.2 (by omega) (by omega), Option.bind_some, (hS.2.1.2.2.2.2.2.2.2.2 c hc).2]
  simp only [gI_e hK, Option.bind_some, hS.2.1.1, hS.2.1.2.1]
  rw [show rem (nI way) 3 = nI (way % 3) from l_rem (by omega) (by decide) (by decide), show rem (nI d) 3 = nI (d % 3) from l_rem (by omega) (by decide) (by decide), show nI way / 3 = nI (way / 3) from l_div (by omega) (by decide) (by decide), show nI d / 3 = nI (d / 3) from l_div (by omega) (by decide) (by decide)]
  rw [clamp_i (by omega) (by omega) (by omega) (by omega) (by omega), clamp_i (by omega) (by omega) (by omega) (by omega) (by omega), pk_mul, nI_add]
  rfl
end SEA
