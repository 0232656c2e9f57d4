/-! THE REFERENCE'S MOVES AND SIGNS -/
section MODEL2
variable {h : Hp} {m fu : Nat} {g : Sg}
theorem m_bound (hK : h.K m = 7) {x a b k : Nat} (hx : x < 64) (ha : a < 3) (hb : b < 3) (hk0 : 0 < k) (hk : k < 64) : f_X7_bound fu m ((((nI x + nI a) - 1) + nI b) - 1) (nI k - 1) h = some (nI (mv x a b k), h) := by
  have e1 : ((((nI x + nI a) - 1) + nI b) - 1).toInt = (x : Int) + a - 1 + b - 1 := ti_sub (ti_add (ti_sub (ti_add (ti_n (by omega)) (ti_n (by omega)) (by omega)) ti_1 (by omega)) (ti_n (by omega)) (by omega)) ti_1 (by omega)
  have e2 : nI k - 1 = nI (k - 1) := l_sub hk0
  rw [e2]
  unfold f_X7_bound
  rw [if_pos hK]
  by_cases h0 : 2 ≤ x + a + b
  · have e3 : ((((nI x + nI a) - 1) + nI b) - 1) = nI (x + a + b - 2) := ti_eq (by rw [e1]; omega) (by omega)
    rw [e3, if_pos (nI_pos' (by omega))]
    by_cases h1 : x + a + b - 2 ≤ k - 1
    · rw [if_pos (nI_le h1 (by omega))]; unfold mv; rw [Nat.min_eq_left h1]
    · rw [if_neg (nI_ge (by omega) (by omega))]; unfold mv; rw [Nat.min_eq_right (by omega)]
  · rw [if_neg (by rw [le_ti, e1, ti_0]; omega)]
    unfold mv
    rw [show x + a + b - 2 = 0 by omega, Nat.zero_min]
    rfl
theorem m_goes (hM : Mo h m g) {c way by_ : Nat} (hc : c < g.n) (hw : way < 9) (hb : by_ < 9) : f_X7_goes fu m (nI c) (nI way) (nI by_) h = some (nI (goN g c way by_), h) := by
  have hK := hM.K
  have h64 := hM.2.2.n64
  obtain ⟨w2, w8, h2, h8, -, -⟩ := hM.2.2
  unfold f_X7_goes
  rw [if_pos hK, m_isLand hM (by omega), Option.bind_some]
  unfold goN
  by_cases hl : 0 < g.ld c
  · simp only [hl, if_true]
    rw [if_neg (by decide)]
  · simp only [hl]
    rw [if_pos (by decide)]
    simp only [gI_e hK, Option.bind_some, hM.2.1.1, hM.2.1.2.1]
    have hwz : ¬ nI g.w = 0 := nI_ne0 (by omega) (by omega)
    have r1 : rem (nI way) 3 = nI (way % 3) := l_rem (by omega) (by decide) (by decide)
    have r2 : rem (nI by_) 3 = nI (by_ % 3) := l_rem (by omega) (by decide) (by decide)
    have r3 : (nI way) / 3 = nI (way / 3) := l_div (by omega) (by decide) (by decide)
    have r4 : (nI by_) / 3 = nI (by_ / 3) := l_div (by omega) (by decide) (by decide)
    have hcw : c % g.w < g.w := Nat.mod_lt _ (by omega)
    have hch : c / g.w < g.hh := Nat.div_lt_of_lt_mul hc
    rw [if_neg hwz, n_rem (by omega) (by omega) (by omega), r1, r2, m_bound hK (by omega) (by omega) (by omega) (by omega) (by omega), Option.bind_some]
    simp only [gI_e hK, Option.bind_some, hM.2.1.1, hM.2.1.2.1]
    rw [if_neg hwz, pk_div (by omega) (by omega) (by omega), r3, r4, m_bound hK (by omega) (by omega) (by omega) (by omega) (by omega), Option.bind_some]
    simp only [gI_e hK, Option.bind_some, hM.2.1.1, pk_mul, nI_add]
    rfl
/-- the reference's image of a set: by drifts, by cells -/
def od (g : Sg) (wt way c : Nat) : Nat → Nat → Int64 → Int64
  | 0, _, x => x
  | k + 1, b, x => od g wt way c k (b + 1) (if bt (g.dr wt) b then x ||| lsh 1 (nI (goN g c way b)) else x)
def oa (g : Sg) (s : Int64) (wt way : Nat) : Nat → Nat → Int64 → Int64
  | 0, _, x => x
  | k + 1, c, x => oa g s wt way k (c + 1) (if tb s c then od g wt way c 9 0 x else x)
def img (g : Sg) (s : Int64) (way wt : Nat) : Int64 := oa g s wt way g.n 0 0
theorem m_ga31 (hM : Mo h m g) {s : Int64} {way wt c : Nat} (hc : c < g.n) (hw : way < 9) (hwt : wt < 6) {k6 : Nat → Int64 → Int32 → Int32 → Int64 → Int32 → Hp → Option (Int64 × Hp)} : ∀ (k b n : Nat) (x5 : Int64), b + k = 9 → k < n → f_X7_goesAll_31 fu k6 n m s (nI way) (nI wt) x5 (nI c) (nI b) h = k6 m s (nI way) (nI wt) (od g wt way c k b x5) (nI (c + 1)) h
  | 0, b, n, x5, hb, hn => by
    obtain ⟨n, rfl⟩ := Nat.exists_eq_succ_of_ne_zero (show n ≠ 0 by omega)
    obtain rfl : b = 9 := by omega
    rw [f_X7_goesAll_31, if_pos (l_ge (Nat.le_refl 9) (by omega))]
    show k6 m s (nI way) (nI wt) x5 (nI c + 1) h = _
    rw [nI_1]; rfl
  | k + 1, b, n, x5, hb, hn => by
    obtain ⟨n, rfl⟩ := Nat.exists_eq_succ_of_ne_zero (show n ≠ 0 by omega)
    have ha := hM.1.2.2.2
    rw [f_X7_goesAll_31, if_neg (l_nge (show b < 9 by omega) (by omega)), gR_e hM.K, ha.1, Option.bind_some, aI_e ha.2.1 ha.2.2 hwt (by omega), Option.bind_some, hM.2.1.2.2.2.2.2.2 wt hwt, ibit _ (by omega)]
    rw [od]
    by_cases hbt : bt (g.dr wt) b = true
    · simp only [hbt, if_true]
      rw [m_goes hM hc hw (by omega), Option.bind_some]
      show f_X7_goesAll_31 fu k6 n m s (nI way) (nI wt) (x5 ||| lsh 1 (nI (goN g c way b))) (nI c) (nI b + 1) h = _
      rw [nI_1]
      exact m_ga31 hM hc hw hwt k (b + 1) n _ (by omega) (by omega)
    · simp only [hbt]
      rw [if_neg (by decide)]
      show f_X7_goesAll_31 fu k6 n m s (nI way) (nI wt) x5 (nI c) (nI b + 1) h = _
      rw [nI_1]
      exact m_ga31 hM hc hw hwt k (b + 1) n _ (by omega) (by omega)
theorem m_ga6 (hM : Mo h m g) (hf : 64 < fu) {s : Int64} {way wt : Nat} (hw : way < 9) (hwt : wt < 6) : ∀ (k c n : Nat) (x5 : Int64), c + k = g.n → k < n → f_X7_goesAll_6 fu n m s (nI way) (nI wt) x5 (nI c) h = some (oa g s wt way k c x5, h)
  | 0, c, n, x5, hc, hn => by
    have h64 := hM.2.2.n64
    obtain ⟨n, rfl⟩ := Nat.exists_eq_succ_of_ne_zero (show n ≠ 0 by omega)
    obtain rfl : c = g.n := by omega
    rw [f_X7_goesAll_6, m_cells hM, Option.bind_some, if_pos (nI_le (Nat.le_refl _) (by omega))]; rfl
  | k + 1, c, n, x5, hc, hn => by
    have h64 := hM.2.2.n64
    obtain ⟨n, rfl⟩ := Nat.exists_eq_succ_of_ne_zero (show n ≠ 0 by omega)
    rw [f_X7_goesAll_6, m_cells hM, Option.bind_some, if_neg (nI_ge (show c < g.n by omega) (by omega)), m_has hM.K (by omega), Option.bind_some, oa]
    by_cases ht : tb s c = true
    · simp only [ht, if_true]
      rw [if_neg (by decide), show (0 : Int32) = nI 0 from rfl, m_ga31 hM (by omega) hw hwt 9 0 fu x5 (by omega) (by omega)]
      exact m_ga6 hM hf hw hwt k (c + 1) n _ (by omega) (by omega)
    · simp only [ht]
      rw [if_pos (by decide)]
      show f_X7_goesAll_6 fu n m s (nI way) (nI wt) x5 (nI c + 1) h = _
      rw [nI_1]
      exact m_ga6 hM hf hw hwt k (c + 1) n _ (by omega) (by omega)
theorem m_goesAll (hM : Mo h m g) (hf : 64 < fu) {s : Int64} {way wt : Nat} (hw : way < 9) (hwt : wt < 6) : f_X7_goesAll fu m s (nI way) (nI wt) h = some (img g s way wt, h) := by
  have h64 := hM.2.2.n64
  unfold f_X7_goesAll
  rw [if_pos hM.K]
  exact m_ga6 hM hf hw hwt g.n 0 fu 0 (by omega) (by omega)
theorem od_iff {g : Sg} (hg : g.ok) {wt way c : Nat} (hc : c < g.n) {i : Nat} (hi : i < 64) : ∀ (k b : Nat) (x : Int64), tb (od g wt way c k b x) i = true ↔ tb x i = true ∨ ∃ d, b ≤ d ∧ d < b + k ∧ bt (g.dr wt) d = true ∧ goN g c way d = i
  | 0, b, x => by
    rw [od]
    constructor
    · exact Or.inl
    · rintro (h | ⟨d, h1, h2, -⟩)
      · exact h
      · omega
  | k + 1, b, x => by
    have hl : goN g c way b < 64 := Nat.lt_of_lt_of_le (goN_lt hg hc way b) hg.n64
    rw [od, od_iff hg hc hi k (b + 1)]
    by_cases hbt : bt (g.dr wt) b = true
    · rw [if_pos hbt, tb_or, tb_bit hl hi, Bool.or_eq_true, decide_eq_true_eq]
      constructor
      · rintro ((h | h) | ⟨d, h1, h2, h3⟩)
        · exact Or.inl h
        · exact Or.inr ⟨b, Nat.le_refl _, by omega, hbt, h.symm⟩
        · exact Or.inr ⟨d, by omega, by omega, h3⟩
      · rintro (h | ⟨d, h1, h2, h3, h4⟩)
        · exact Or.inl (Or.inl h)
        · by_cases e : d = b
          · subst e; exact Or.inl (Or.inr h4.symm)
          · exact Or.inr ⟨d, by omega, by omega, h3, h4⟩
    · rw [if_neg hbt]
      constructor
      · rintro (h | ⟨d, h1, h2, h3⟩)
        · exact Or.inl h
        · exact Or.inr ⟨d, by omega, by omega, h3⟩
      · rintro (h | ⟨d, h1, h2, h3, h4⟩)
        · exact Or.inl h
        · by_cases e : d = b
          · subst e; exact absurd h3 hbt
          · exact Or.inr ⟨d, by omega, by omega, h3, h4⟩
theorem oa_iff {g : Sg} (hg : g.ok) {s : Int64} {wt way : Nat} {i : Nat} (hi : i < 64) : ∀ (k c : Nat) (x : Int64), c + k = g.n → (tb (oa g s wt way k c x) i = true ↔ tb x i = true ∨ ∃ j d, c ≤ j ∧ j < g.n ∧ tb s j = true ∧ d < 9 ∧ bt (g.dr wt) d = true ∧ goN g j way d = i)
  | 0, c, x, hc => by
    rw [oa]
    constructor
    · exact Or.inl
    · rintro (h | ⟨j, d, h1, h2, -⟩)
      · exact h
      · omega
  | k + 1, c, x, hc => by
    rw [oa, oa_iff hg hi k (c + 1) _ (by omega)]
    by_cases ht : tb s c = true
    · rw [if_pos ht, od_iff hg (by omega) hi]
      constructor
      · rintro ((h | ⟨d, h1, h2, h3, h4⟩) | ⟨j, d, h1, h2, h3⟩)
        · exact Or.inl h
        · exact Or.inr ⟨c, d, Nat.le_refl _, by omega, ht, by omega, h3, h4⟩
        · exact Or.inr ⟨j, d, by omega, h2, h3⟩
      · rintro (h | ⟨j, d, h1, h2, h3, h4, h5, h6⟩)
        · exact Or.inl (Or.inl h)
        · by_cases e : j = c
          · subst e; exact Or.inl (Or.inr ⟨d, by omega, by omega, h5, h6⟩)
          · exact Or.inr ⟨j, d, by omega, h2, h3, h4, h5, h6⟩
    · rw [if_neg ht]
      constructor
      · rintro (h | ⟨j, d, h1, h2, h3⟩)
        · exact Or.inl h
        · exact Or.inr ⟨j, d, by omega, h2, h3⟩
      · rintro (h | ⟨j, d, h1, h2, h3, h4⟩)
        · exact Or.inl h
        · by_cases e : j = c
          · subst e; exact absurd h3 ht
          · exact Or.inr ⟨j, d, by omega, h2, h3, h4⟩
/-- the image by bits -/
theorem img_iff {g : Sg} (hg : g.ok) {s : Int64} {way wt i : Nat} (hi : i < 64) : tb (img g s way wt) i = true ↔ ∃ j d, j < g.n ∧ tb s j = true ∧ d < 9 ∧ bt (g.dr wt) d = true ∧ goN g j way d = i := by
  unfold img
  rw [oa_iff hg hi g.n 0 0 (by omega), tb_0]
  constructor
  · rintro (h | ⟨j, d, -, h⟩)
    · cases h
    · exact ⟨j, d, h⟩
  · rintro ⟨j, d, h⟩
    exact Or.inr ⟨j, d, by omega, h⟩
theorem m_far (hK : h.K m = 7) {a b : Nat} (ha : a < 64) (hb : b < 64) : f_X7_far fu m (nI a) (nI b) h = some (nI (dst a b), h) := by
  unfold f_X7_far dst
  rw [if_pos hK]
  by_cases hab : b ≤ a
  · rw [if_pos (nI_le hab (by omega)), if_pos hab, pk_sub hab]
  · rw [if_neg (nI_ge (by omega) (by omega)), if_neg hab, pk_sub (by omega)]
theorem dst_lt {a b k : Nat} (ha : a < k) (hb : b < k) : dst a b < k := by unfold dst; split <;> omega
theorem m_so57 (hM : Mo h m g) {c : Nat} (hc : c < g.n) : ∀ (k l n : Nat), l + k = g.n → k < n → f_X7_signOf_57 fu n m (nI c) (nI l) h = some (if bf g c k l then 1 else 0, h)
  | 0, l, n, hl, hn => by
    have h64 := hM.2.2.n64
    obtain ⟨n, rfl⟩ := Nat.exists_eq_succ_of_ne_zero (show n ≠ 0 by omega)
    obtain rfl : l = g.n := by omega
    rw [f_X7_signOf_57, m_cells hM, Option.bind_some, if_pos (nI_le (Nat.le_refl _) (by omega))]; rfl
  | k + 1, l, n, hl, hn => by
    have h64 := hM.2.2.n64
    have hK := hM.K
    obtain ⟨w2, w8, h2, h8, l4, -⟩ := hM.2.2
    have ha := hM.1.2.1
    obtain ⟨n, rfl⟩ := Nat.exists_eq_succ_of_ne_zero (show n ≠ 0 by omega)
    have ih := m_so57 hM hc k (l + 1) n (by omega) (by omega)
    have hwz : ¬ nI g.w = 0 := nI_ne0 (by omega) (by omega)
    rw [f_X7_signOf_57, m_cells hM, Option.bind_some, if_neg (nI_ge (show l < g.n by omega) (by omega)), m_isLand hM (by omega), Option.bind_some, bf]
    by_cases hl0 : 0 < g.ld l
    · simp only [hl0, if_true]
      rw [if_neg (by decide)]
      simp only [gI_e hK, Option.bind_some, hM.2.1.1]
      have m1 : l % g.w < g.w := Nat.mod_lt _ (by omega)
      have m2 : c % g.w < g.w := Nat.mod_lt _ (by omega)
      have hln : l < g.n := by omega
      have d1 : l / g.w < g.hh := Nat.div_lt_of_lt_mul hln
      have d2 : c / g.w < g.hh := Nat.div_lt_of_lt_mul hc
      have q1 := dst_lt m1 m2
      have q2 := dst_lt d1 d2
      have q4 := l4 l
      rw [if_neg hwz, if_neg hwz, n_rem (by omega) (by omega) (by omega), n_rem (by omega) (by omega) (by omega), m_far hK (by omega) (by omega), Option.bind_some, gR_e hK, ha.1, Option.bind_some, aI_e ha.2.1 ha.2.2 (by omega) (by omega), Option.bind_some, hM.2.1.2.2.2.2.1 l (by omega)]
      by_cases e1 : dst (l % g.w) (c % g.w) < g.ld l
      · rw [if_neg (nI_ge e1 (by omega))]
        simp only [gI_e hK, Option.bind_some, hM.2.1.1]
        rw [if_neg hwz, if_neg hwz, pk_div (by omega) (by omega) (by omega), pk_div (by omega) (by omega) (by omega), m_far hK (by omega) (by omega), Option.bind_some, gR_e hK, ha.1, Option.bind_some, aI_e ha.2.1 ha.2.2 (by omega) (by omega), Option.bind_some, hM.2.1.2.2.2.2.1 l (by omega)]
        by_cases e2 : dst (l / g.w) (c / g.w) < g.ld l
        · rw [if_neg (nI_ge e2 (by omega))]; simp [e1, e2]
        · rw [if_pos (nI_le (by omega) (by omega))]
          show f_X7_signOf_57 fu n m (nI c) (nI l + 1) h = _
          rw [nI_1, ih]; simp [e2]
      · rw [if_pos (nI_le (by omega) (by omega))]
        show f_X7_signOf_57 fu n m (nI c) (nI l + 1) h = _
        rw [nI_1, ih]; simp [e1]
    · simp only [hl0]
      rw [if_pos (by decide)]
      show f_X7_signOf_57 fu n m (nI c) (nI l + 1) h = _
      rw [nI_1, ih]; simp
theorem m_signOf (hM : Mo h m g) (hf : 64 < fu) {c wt what : Nat} (hc : c < g.n) (hwt : wt < 6) (hwh : what < 3) : f_X7_signOf fu m (nI c) (nI wt) (nI what) h = some (sgn g c wt what, h) := by
  have h64 := hM.2.2.n64
  have hK := hM.K
  obtain ⟨w2, w8, h2, h8, l4, -⟩ := hM.2.2
  have ha := hM.1.2.2.1
  unfold f_X7_signOf sgn
  rw [if_pos hK]
  by_cases e0 : what = 0
  · rw [if_pos ((l_eq (by omega) (by omega)).mpr e0), if_pos e0, gR_e hK, ha.1, Option.bind_some, aI_e ha.2.1 ha.2.2 (by omega) (by omega), Option.bind_some, hM.2.1.2.2.2.2.2.1 c (by omega)]
  · rw [if_neg (fun q => e0 ((l_eq (by omega) (by omega)).mp q)), if_neg e0]
    by_cases e1 : what = 1
    · rw [if_pos ((l_eq (by omega) (by omega)).mpr e1), if_pos e1, gI_e hK, Option.bind_some, hM.2.1.2.2.1, ibit _ (by omega)]
      by_cases hb : bt g.ni wt = true
      · simp only [hb, if_true, gI_e hK, Option.bind_some, hM.2.1.1]
        rw [if_neg (nI_ne0 (by omega) (by omega)), pk_div (by omega) (by omega) (by omega), l_div (by have := Nat.div_le_self c g.w; omega) (by decide) (by decide)]
      · simp only [hb]
        rw [if_neg (by decide)]; rfl
    · rw [if_neg (fun q => e1 ((l_eq (by omega) (by omega)).mp q)), if_neg e1, gI_e hK, Option.bind_some, hM.2.1.2.2.2.1, ibit _ (by omega)]
      by_cases hb : bt g.fl wt = true
      · simp only [hb, if_true]
        rw [if_neg (by decide)]
        exact m_so57 hM hc g.n 0 fu (by omega) (by omega)
      · simp only [hb]
        rw [if_pos (by decide)]; rfl
end MODEL2
