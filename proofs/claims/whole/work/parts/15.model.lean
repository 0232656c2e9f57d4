/-! THE REFERENCE'S READS OF THE SEA -/
def ModS (h : Hp) (m : Nat) : Prop := h.K m = 7 ∧ arr h m 8 (m + 1) 8 64 ∧ arr h m 9 (m + 2) 8 64 ∧ arr h m 10 (m + 3) 8 6
def ModV (h : Hp) (m : Nat) (g : Sg) : Prop := h.I m 1 = nI g.w ∧ h.I m 2 = nI g.hh ∧ h.I m 6 = g.ni ∧ h.I m 7 = g.fl ∧ (∀ c, c < 64 → h.I (m + 1) c = nI (g.ld c)) ∧ (∀ c, c < 64 → h.I (m + 2) c = g.sw c) ∧ ∀ k, k < 6 → h.I (m + 3) k = g.dr k
def Mo (h : Hp) (m : Nat) (g : Sg) : Prop := ModS h m ∧ ModV h m g ∧ g.ok
section MODEL
variable {h : Hp} {m fu : Nat} {g : Sg}
theorem Mo.K (hM : Mo h m g) : h.K m = 7 := hM.1.1
theorem m_cells (hM : Mo h m g) : f_X7_cells fu m h = some (nI g.n, h) := by
  have hK := hM.K
  simp only [f_X7_cells, if_pos hK, gI_e hK, Option.bind_some, hM.2.1.1, hM.2.1.2.1, pk_mul]
  rfl
theorem m_has (hK : h.K m = 7) {s : Int64} {c : Nat} (hc : c < 64) : f_X7_has fu m s (nI c) h = some (if tb s c then 1 else 0, h) := by
  unfold f_X7_has
  rw [if_pos hK]
  by_cases ht : tb s c = true
  · rw [if_pos ((has7 s hc).mpr ht)]; simp [ht]
  · rw [if_neg (fun q => ht ((has7 s hc).mp q))]; simp [ht]
theorem m_count_l (hK : h.K m = 7) {s : Int64} : ∀ (k c n : Nat), c + k = 64 → k < n → f_X7_count_5 fu n m s (nI (cnt (tb s) c)) (nI c) h = some (nI (cnt (tb s) 64), h)
  | 0, c, n, hc, hn => by
    obtain ⟨n, rfl⟩ := Nat.exists_eq_succ_of_ne_zero (show n ≠ 0 by omega)
    obtain rfl : c = 64 := by omega
    rw [f_X7_count_5, if_pos (l_ge (Nat.le_refl 64) (by omega))]
  | k + 1, c, n, hc, hn => by
    obtain ⟨n, rfl⟩ := Nat.exists_eq_succ_of_ne_zero (show n ≠ 0 by omega)
    rw [f_X7_count_5, if_neg (l_nge (show c < 64 by omega) (by omega)), m_has hK (by omega), Option.bind_some]
    have ih := m_count_l hK (s := s) k (c + 1) n (by omega) (by omega)
    by_cases ht : tb s c = true
    · simp only [ht, if_true]
      rw [if_neg (by decide)]
      show f_X7_count_5 fu n m s (nI (cnt (tb s) c) + 1) (nI c + 1) h = _
      rw [nI_1, nI_1]
      rw [cnt, if_pos ht] at ih
      exact ih
    · simp only [ht]
      rw [if_pos (by decide)]
      show f_X7_count_5 fu n m s (nI (cnt (tb s) c)) (nI c + 1) h = _
      rw [nI_1]
      rw [cnt, if_neg ht] at ih
      exact ih
theorem m_count (hK : h.K m = 7) (hf : 64 < fu) {s : Int64} : f_X7_count fu m s h = some (nI (cnt (tb s) 64), h) := by
  unfold f_X7_count
  rw [if_pos hK]
  exact m_count_l hK 64 0 fu (by omega) hf
theorem m_isLand (hM : Mo h m g) {c : Nat} (hc : c < 64) : f_X7_isLand fu m (nI c) h = some (if 0 < g.ld c then 1 else 0, h) := by
  have hK := hM.K
  have ha := hM.1.2.1
  unfold f_X7_isLand
  rw [if_pos hK, gR_e hK, ha.1, Option.bind_some, aI_e ha.2.1 ha.2.2 hc (by omega), Option.bind_some, hM.2.1.2.2.2.2.1 c hc]
  have h4 := hM.2.2.2.2.2.2.1 c
  by_cases hl : 0 < g.ld c
  · rw [if_neg (nI_nle hl (by omega)), if_pos hl]
  · rw [if_pos (by rw [show g.ld c = 0 by omega]; decide), if_neg hl]
theorem m_isCell_y (hM : Mo h m g) {c : Nat} (hc : c < g.n) : f_X7_isCell fu m (nI c) h = some (1, h) := by
  have hK := hM.K
  have hn := hM.2.2.n64
  unfold f_X7_isCell
  rw [if_pos hK, if_neg (nI_pos (by omega)), m_cells hM, Option.bind_some, if_neg (nI_ge hc (by omega))]
theorem m_isCell_n (hM : Mo h m g) {x : Int32} (hx : x < 0 ∨ nI g.n ≤ x) : f_X7_isCell fu m x h = some (0, h) := by
  have hK := hM.K
  unfold f_X7_isCell
  rw [if_pos hK]
  by_cases h0 : x < 0
  · rw [if_pos h0]
  · rw [if_neg h0, m_cells hM, Option.bind_some, if_pos (hx.resolve_left h0)]
theorem cell_or (hg : g.ok) (x : Int32) : (x < 0 ∨ nI g.n ≤ x) ∨ ∃ c, c < g.n ∧ x = nI c := by
  have hn := hg.n64
  rcases pk_ix x (show g.n < 2 ^ 31 by omega) with a | a | a
  · exact Or.inl (Or.inl a)
  · exact Or.inl (Or.inr a)
  · exact Or.inr a
theorem m_landsIn_l (hM : Mo h m g) {s : Int64} : ∀ (k c n : Nat), c + k = g.n → k < n → f_X7_landsIn_5 fu n m s (nI (cnt (fun i => tb s i && decide (0 < g.ld i)) c)) (nI c) h = some (nI (cnt (fun i => tb s i && decide (0 < g.ld i)) g.n), h)
  | 0, c, n, hc, hn => by
    have h64 := hM.2.2.n64
    obtain ⟨n, rfl⟩ := Nat.exists_eq_succ_of_ne_zero (show n ≠ 0 by omega)
    obtain rfl : c = g.n := by omega
    rw [f_X7_landsIn_5, m_cells hM, Option.bind_some, if_pos (nI_le (Nat.le_refl _) (by omega))]
  | k + 1, c, n, hc, hn => by
    have h64 := hM.2.2.n64
    obtain ⟨n, rfl⟩ := Nat.exists_eq_succ_of_ne_zero (show n ≠ 0 by omega)
    rw [f_X7_landsIn_5, m_cells hM, Option.bind_some, if_neg (nI_ge (show c < g.n by omega) (by omega)), m_has hM.K (by omega), Option.bind_some]
    have ih := m_landsIn_l hM (s := s) k (c + 1) n (by omega) (by omega)
    by_cases ht : tb s c = true
    · simp only [ht, if_true]
      rw [if_neg (by decide), m_isLand hM (by omega), Option.bind_some]
      by_cases hl : 0 < g.ld c
      · simp only [hl, if_true]
        rw [if_neg (by decide)]
        show f_X7_landsIn_5 fu n m s (nI _ + 1) (nI c + 1) h = _
        rw [nI_1, nI_1]
        rw [cnt, if_pos (by simp [ht, hl])] at ih
        exact ih
      · simp only [hl]
        rw [if_pos (by decide)]
        show f_X7_landsIn_5 fu n m s (nI _) (nI c + 1) h = _
        rw [nI_1]
        rw [cnt, if_neg (by simp [hl])] at ih
        exact ih
    · simp only [ht]
      rw [if_pos (by decide)]
      show f_X7_landsIn_5 fu n m s (nI _) (nI c + 1) h = _
      rw [nI_1]
      rw [cnt, if_neg (by simp [ht])] at ih
      exact ih
theorem m_landsIn (hM : Mo h m g) (hf : 64 < fu) {s : Int64} : f_X7_landsIn fu m s h = some (nI (cnt (fun i => tb s i && decide (0 < g.ld i)) g.n), h) := by
  have h64 := hM.2.2.n64
  unfold f_X7_landsIn
  rw [if_pos hM.K]
  exact m_landsIn_l hM g.n 0 fu (by omega) (by omega)
end MODEL
