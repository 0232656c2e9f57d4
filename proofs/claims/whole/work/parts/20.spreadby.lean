theorem tb_eq_iff {x y : Int64} {i : Nat} (h : tb x i = true ↔ tb y i = true) : tb x i = tb y i := by
  cases hx : tb x i <;> cases hy : tb y i <;> simp_all
theorem gof_gk (g : Sg) (c way d : Nat) : gof g c way d = gk g.w g.hh c (way / 3 + d / 3) (way % 3 + d % 3) := by
  unfold gof gk mv; rw [Nat.add_assoc, Nat.add_assoc]
section SPREADBY
variable {h : Hp} {a fu : Nat} {g : Sg}
def ob (J : Nat → Int64) (v : Int32) (f0 : Nat) : Nat → Nat → Int64 → Int64
  | 0, _, x => x
  | k + 1, d, x => ob J v f0 k (d + 1) (if bt v d then x ||| J (f0 + (d / 3 * 5 + d % 3)) else x)
theorem ob_iff {J : Nat → Int64} {v : Int32} {f0 i : Nat} : ∀ (k d : Nat) (x : Int64), tb (ob J v f0 k d x) i = true ↔ tb x i = true ∨ ∃ e, d ≤ e ∧ e < d + k ∧ bt v e = true ∧ tb (J (f0 + (e / 3 * 5 + e % 3))) i = true
  | 0, d, x => by
    rw [ob]
    constructor
    · exact Or.inl
    · rintro (h | ⟨e, h1, h2, -⟩)
      · exact h
      · omega
  | k + 1, d, x => by
    rw [ob, ob_iff k (d + 1)]
    by_cases hb : bt v d = true
    · rw [if_pos hb, tb_or, Bool.or_eq_true]
      constructor
      · rintro ((h | h) | ⟨e, h1, h2, h3⟩)
        · exact Or.inl h
        · exact Or.inr ⟨d, Nat.le_refl _, by omega, hb, h⟩
        · exact Or.inr ⟨e, by omega, by omega, h3⟩
      · rintro (h | ⟨e, h1, h2, h3, h4⟩)
        · exact Or.inl (Or.inl h)
        · by_cases q : e = d
          · subst q; exact Or.inl (Or.inr h4)
          · exact Or.inr ⟨e, by omega, by omega, h3, h4⟩
    · rw [if_neg hb]
      constructor
      · rintro (h | ⟨e, h1, h2, h3⟩)
        · exact Or.inl h
        · exact Or.inr ⟨e, by omega, by omega, h3⟩
      · rintro (h | ⟨e, h1, h2, h3, h4⟩)
        · exact Or.inl h
        · by_cases q : e = d
          · subst q; exact absurd h3 hb
          · exact Or.inr ⟨e, by omega, by omega, h3, h4⟩
theorem s_shiftOf {d : Nat} (hd : d < 9) : f_X4_shiftOf fu (nI d) h = some (nI (d / 3 * 5 + d % 3), h) := by
  unfold f_X4_shiftOf
  rw [show nI d / 3 = nI (d / 3) from l_div (by omega) (by decide) (by decide), show rem (nI d) 3 = nI (d % 3) from l_rem (by omega) (by decide) (by decide), show nI (d / 3) * 5 = nI (d / 3 * 5) from pk_mul _ 5, nI_add]
theorem s_sb14 (hS : Se h a g) {wt f0 : Nat} (hwt : wt < 6) (hf0 : f0 ≤ 12) : ∀ (k d n : Nat) (x : Int64), d + k = 9 → k < n → f_X4_spreadBy_14 fu n a (nI wt) x (nI f0) (nI d) h = some (ob (h.J (a + 6)) (g.dr wt) f0 k d x, h)
  | 0, d, n, x, hd, hn => by
    obtain ⟨n, rfl⟩ := Nat.exists_eq_succ_of_ne_zero (show n ≠ 0 by omega)
    obtain rfl : d = 9 := by omega
    rw [f_X4_spreadBy_14, if_pos (l_ge (Nat.le_refl 9) (by omega))]; rfl
  | k + 1, d, n, x, hd, hn => by
    obtain ⟨n, rfl⟩ := Nat.exists_eq_succ_of_ne_zero (show n ≠ 0 by omega)
    have h19 := hS.1.2.2.2.2.2.2
    rw [f_X4_spreadBy_14, if_neg (l_nge (show d < 9 by omega) (by omega)), s_driftsBy hS hwt (by omega), Option.bind_some, ob]
    by_cases hb : bt (g.dr wt) d = true
    · simp only [hb, if_true]
      rw [if_neg (by decide), gR_e hS.1.1, h19.1, Option.bind_some, s_shiftOf (by omega), Option.bind_some, nI_add, aJ_e h19.2.1 h19.2.2 (by omega) (by omega), Option.bind_some]
      show f_X4_spreadBy_14 fu n a (nI wt) _ (nI f0) (nI d + 1) h = _
      rw [nI_1]
      exact s_sb14 hS hwt hf0 k (d + 1) n _ (by omega) (by omega)
    · simp only [hb]
      rw [if_pos (by decide)]
      show f_X4_spreadBy_14 fu n a (nI wt) _ (nI f0) (nI d + 1) h = _
      rw [nI_1]
      exact s_sb14 hS hwt hf0 k (d + 1) n _ (by omega) (by omega)
/-- the class's image is the reference's -/
theorem s_spreadBy (hS : Se h a g) (hf : 64 < fu) {s : Int64} (hs : subs s g.n) (hp : Spr h a g s) {way wt : Nat} (hw : way < 9) (hwt : wt < 6) (hdk : ∃ d, d < 9 ∧ bt (g.dr wt) d = true) : f_X4_spreadBy fu a (nI way) (nI wt) h = some (img g s way wt, h) := by
  have hg := hS.2.2.2
  have hn := hg.n64
  have hK := hS.1.1
  unfold f_X4_spreadBy
  rw [if_pos hK, gJ_e hK, Option.bind_some, s_shiftOf hw, Option.bind_some]
  have e := s_sb14 (fu := fu) hS hwt (f0 := way / 3 * 5 + way % 3) (by omega) 9 0 fu (h.J a 18) (by omega) (by omega)
  refine e.trans ?_
  have e2 : ob (h.J (a + 6)) (g.dr wt) (way / 3 * 5 + way % 3) 9 0 (h.J a 18) = img g s way wt := by
    apply tb_ext
    intro i hi
    apply tb_eq_iff
    rw [ob_iff, img_iff hg hi, hp.1, tb_and, Bool.and_eq_true, hS.2.2.1.2.1 i hi, decide_eq_true_eq]
    constructor
    · rintro (⟨h1, h2⟩ | ⟨d, -, h2, h3, h4⟩)
      · obtain ⟨d, d1, d2⟩ := hdk
        exact ⟨i, d, hs i h1, h1, d1, d2, by unfold goN; rw [if_pos h2]⟩
      · have q := (hp.2 (way / 3 + d / 3) (way % 3 + d % 3) (by omega) (by omega) i hi).mp (by
          rw [show 5 * (way / 3 + d / 3) + (way % 3 + d % 3) = way / 3 * 5 + way % 3 + (d / 3 * 5 + d % 3) by omega]; exact h4)
        obtain ⟨c, c1, c2, c3⟩ := q
        unfold aflo at c2
        rw [tb_and, Bool.and_eq_true, tb_not (by omega), hS.2.2.1.2.1 c (by omega)] at c2
        have c4 : ¬ 0 < g.ld c := by have := c2.2; simpa using this
        refine ⟨c, d, c1, c2.1, by omega, h3, ?_⟩
        unfold goN
        rw [if_neg c4, gof_gk]; exact c3
    · rintro ⟨c, d, c1, c2, c3, c4, c5⟩
      unfold goN at c5
      by_cases hl : 0 < g.ld c
      · rw [if_pos hl] at c5
        subst c5
        exact Or.inl ⟨c2, hl⟩
      · rw [if_neg hl, gof_gk] at c5
        refine Or.inr ⟨d, by omega, by omega, c4, ?_⟩
        rw [show way / 3 * 5 + way % 3 + (d / 3 * 5 + d % 3) = 5 * (way / 3 + d / 3) + (way % 3 + d % 3) by omega]
        refine (hp.2 (way / 3 + d / 3) (way % 3 + d % 3) (by omega) (by omega) i hi).mpr ⟨c, c1, ?_, c5⟩
        unfold aflo
        rw [tb_and, Bool.and_eq_true, tb_not (by omega), hS.2.2.1.2.1 c (by omega)]
        simp [c2, hl]
  rw [e2]
/-- the image stays within the cells -/
theorem img_subs (hg : g.ok) {s : Int64} {way wt : Nat} : subs (img g s way wt) g.n := by
  intro i hi
  have h64 : i < 64 := Nat.lt_of_not_le (fun q => by rw [tb_big q] at hi; cases hi)
  obtain ⟨j, d, h1, -, -, -, h5⟩ := (img_iff hg h64).mp hi
  rw [← h5]; exact goN_lt hg h1 way d
/-- all land -/
theorem s_isAllLand (hS : Se h a g) {s : Int64} (hs : subs s g.n) : f_X4_isAllLand fu a s h = some (if ∀ i, i < g.n → tb s i = true → 0 < g.ld i then 1 else 0, h) := by
  have hK := hS.1.1
  have hn := hS.2.2.2.n64
  unfold f_X4_isAllLand
  rw [if_pos hK, gJ_e hK, Option.bind_some]
  have e : (lg_cmp (s &&& (h.J a 5 ^^^ (-1))) 0 = 0) ↔ ∀ i, i < g.n → tb s i = true → 0 < g.ld i := by
    rw [cmp0]
    constructor
    · intro h0 i hi ht
      have := congrArg (fun x => tb x i) h0
      simp only [tb_and, tb_0, tb_not (show i < 64 by omega), ht, hS.2.2.1.2.1 i (by omega)] at this
      simpa using this
    · intro h0
      apply tb_ext
      intro i hi
      rw [tb_and, tb_0, tb_not hi, hS.2.2.1.2.1 i hi]
      cases ht : tb s i
      · rfl
      · simp [h0 i (hs i ht) ht]
  by_cases hc : lg_cmp (s &&& (h.J a 5 ^^^ (-1))) 0 = 0
  · rw [if_pos hc, if_pos (e.mp hc)]
  · rw [if_neg hc, if_neg (fun q => hc (e.mpr q))]
end SPREADBY
